/-! each predicate holds for a weaker 'post' too -/
section
theorem q_mi {A B C : Prop} (f : B → C) : (A → B) → A → C := fun h a => f (h a)
theorem q_mb {A B C D : Prop} (f : A → C) (g : B → D) : A ∧ B → C ∧ D := fun h => ⟨f h.1, g h.2⟩
theorem q_ma {α : Sort _} {P Q : α → Prop} (f : ∀ x, P x → Q x) : (∀ x, P x) → ∀ x, Q x := fun h x => f x (h x)
theorem q_me {α : Sort _} {P Q : α → Prop} (f : ∀ x, P x → Q x) : (∃ x, P x) → ∃ x, Q x := fun ⟨x, h⟩ => ⟨x, f x h⟩
theorem mn_wl_MO_clear_2 {post post' : gMem → Prop}  (h_post : ∀ y0, post y0 → post' y0) : ∀ (n : Nat) (z0 : Int32) (z1 : gMem), wl_MO_clear_2 post n z0 z1 → wl_MO_clear_2 post' n z0 z1 := by
  intro n
  induction n with
  | zero => intro z0 z1 h; exact h
  | succ n ih =>
    intro z0 z1
    unfold wl_MO_clear_2
    repeat' with_reducible first | exact h_post _ | exact ih _ _ | refine q_mb ?_ ?_ | refine q_ma (fun _ => ?_) | refine q_me (fun _ => ?_) | refine q_mi ?_ | exact id
theorem mn_wp_MO_clear {post post' : gMem → Prop} {M : gMem} (h_post : ∀ y0, post y0 → post' y0) : wp_MO_clear post M → wp_MO_clear post' M := by
  unfold wp_MO_clear
  repeat' with_reducible first | exact h_post _ | refine mn_wl_MO_clear_2 (fun _ => ?_) _ _ _ | refine q_mb ?_ ?_ | refine q_ma (fun _ => ?_) | refine q_me (fun _ => ?_) | refine q_mi ?_ | exact id
theorem mn_wp_MO_byteOf {post post' : Int32 → gMem → Prop} {a0 : Int64} {a1 : Int32} {M : gMem} (h_post : ∀ y0 y1, post y0 y1 → post' y0 y1) : wp_MO_byteOf post a0 a1 M → wp_MO_byteOf post' a0 a1 M := by
  unfold wp_MO_byteOf
  repeat' with_reducible first | exact h_post _ _ | refine q_mb ?_ ?_ | refine q_ma (fun _ => ?_) | refine q_me (fun _ => ?_) | refine q_mi ?_ | exact id
theorem mn_wl_MO_put_39 {post post' : Bool → gMem → Prop}  (h_post : ∀ y0 y1, post y0 y1 → post' y0 y1) : ∀ (n : Nat) (z0 : Int32) (z1 : Int32) (z2 : Int64) (z3 : Int32) (z4 : gMem), wl_MO_put_39 post n z0 z1 z2 z3 z4 → wl_MO_put_39 post' n z0 z1 z2 z3 z4 := by
  intro n
  induction n with
  | zero => intro z0 z1 z2 z3 z4 h; exact h
  | succ n ih =>
    intro z0 z1 z2 z3 z4
    unfold wl_MO_put_39
    repeat' with_reducible first | exact h_post _ _ | exact ih _ _ _ _ _ | refine mn_wp_MO_byteOf (fun _ _ => ?_) | refine q_mb ?_ ?_ | refine q_ma (fun _ => ?_) | refine q_me (fun _ => ?_) | refine q_mi ?_ | exact id
theorem mn_wp_MO_put {post post' : Bool → gMem → Prop} {a0 : Int32} {a1 : Int32} {a2 : Int64} {M : gMem} (h_post : ∀ y0 y1, post y0 y1 → post' y0 y1) : wp_MO_put post a0 a1 a2 M → wp_MO_put post' a0 a1 a2 M := by
  unfold wp_MO_put
  repeat' with_reducible first | exact h_post _ _ | refine mn_wl_MO_put_39 (fun _ _ => ?_) _ _ _ _ _ _ | refine q_mb ?_ ?_ | refine q_ma (fun _ => ?_) | refine q_me (fun _ => ?_) | refine q_mi ?_ | exact id
theorem mn_wp_MO_bss {post post' : Bool → gMem → Prop} {a0 : Int32} {M : gMem} (h_post : ∀ y0 y1, post y0 y1 → post' y0 y1) : wp_MO_bss post a0 M → wp_MO_bss post' a0 M := by
  unfold wp_MO_bss
  repeat' with_reducible first | exact h_post _ _ | refine q_mb ?_ ?_ | refine q_ma (fun _ => ?_) | refine q_me (fun _ => ?_) | refine q_mi ?_ | exact id
theorem mn_wp_MO_align {post post' : Bool → gMem → Prop} {a0 : Int32} {a1 : Int32} {M : gMem} (h_post : ∀ y0 y1, post y0 y1 → post' y0 y1) : wp_MO_align post a0 a1 M → wp_MO_align post' a0 a1 M := by
  unfold wp_MO_align
  repeat' with_reducible first | exact h_post _ _ | refine q_mb ?_ ?_ | refine q_ma (fun _ => ?_) | refine q_me (fun _ => ?_) | refine q_mi ?_ | exact id
theorem mn_wj_MO_start_49 {post post' : Bool → gMem → Prop} {v1 : Int32} {v2 : Int32} {M : gMem} (h_post : ∀ y0 y1, post y0 y1 → post' y0 y1) : wj_MO_start_49 post v1 v2 M → wj_MO_start_49 post' v1 v2 M := by
  unfold wj_MO_start_49
  repeat' with_reducible first | exact h_post _ _ | refine q_mb ?_ ?_ | refine q_ma (fun _ => ?_) | refine q_me (fun _ => ?_) | refine q_mi ?_ | exact id
theorem mn_wp_MO_start {post post' : Bool → gMem → Prop} {a0 : Int32} {M : gMem} (h_post : ∀ y0 y1, post y0 y1 → post' y0 y1) : wp_MO_start post a0 M → wp_MO_start post' a0 M := by
  unfold wp_MO_start
  repeat' with_reducible first | exact h_post _ _ | refine mn_wj_MO_start_49 (fun _ _ => ?_) | refine q_mb ?_ ?_ | refine q_ma (fun _ => ?_) | refine q_me (fun _ => ?_) | refine q_mi ?_ | exact id
theorem mn_wp_MO_letter {post post' : Bool → gMem → Prop} {a0 : Int32} {M : gMem} (h_post : ∀ y0 y1, post y0 y1 → post' y0 y1) : wp_MO_letter post a0 M → wp_MO_letter post' a0 M := by
  unfold wp_MO_letter
  repeat' with_reducible first | exact h_post _ _ | refine q_mb ?_ ?_ | refine q_ma (fun _ => ?_) | refine q_me (fun _ => ?_) | refine q_mi ?_ | exact id
theorem mn_wp_MO_isPower {post post' : Bool → gMem → Prop} {a0 : Int32} {M : gMem} (h_post : ∀ y0 y1, post y0 y1 → post' y0 y1) : wp_MO_isPower post a0 M → wp_MO_isPower post' a0 M := by
  unfold wp_MO_isPower
  repeat' with_reducible first | exact h_post _ _ | refine q_mb ?_ ?_ | refine q_ma (fun _ => ?_) | refine q_me (fun _ => ?_) | refine q_mi ?_ | exact id
theorem mn_wp_MO_isSymbol {post post' : Bool → gMem → Prop} {a0 : Int32} {a1 : Int32} {a2 : Int32} {a3 : Int32} {M : gMem} (h_post : ∀ y0 y1, post y0 y1 → post' y0 y1) : wp_MO_isSymbol post a0 a1 a2 a3 M → wp_MO_isSymbol post' a0 a1 a2 a3 M := by
  unfold wp_MO_isSymbol
  repeat' with_reducible first | exact h_post _ _ | refine mn_wp_MO_isPower (fun _ _ => ?_) | refine q_mb ?_ ?_ | refine q_ma (fun _ => ?_) | refine q_me (fun _ => ?_) | refine q_mi ?_ | exact id
theorem mn_wl_MO_isSameName_24 {post post' : Bool → gMem → Prop}  (h_post : ∀ y0 y1, post y0 y1 → post' y0 y1) : ∀ (n : Nat) (z0 : Int32) (z1 : Int32) (z2 : Int32) (z3 : Int32) (z4 : gMem), wl_MO_isSameName_24 post n z0 z1 z2 z3 z4 → wl_MO_isSameName_24 post' n z0 z1 z2 z3 z4 := by
  intro n
  induction n with
  | zero => intro z0 z1 z2 z3 z4 h; exact h
  | succ n ih =>
    intro z0 z1 z2 z3 z4
    unfold wl_MO_isSameName_24
    repeat' with_reducible first | exact h_post _ _ | exact ih _ _ _ _ _ | refine q_mb ?_ ?_ | refine q_ma (fun _ => ?_) | refine q_me (fun _ => ?_) | refine q_mi ?_ | exact id
theorem mn_wp_MO_isSameName {post post' : Bool → gMem → Prop} {a0 : Int32} {a1 : Int32} {M : gMem} (h_post : ∀ y0 y1, post y0 y1 → post' y0 y1) : wp_MO_isSameName post a0 a1 M → wp_MO_isSameName post' a0 a1 M := by
  unfold wp_MO_isSameName
  repeat' with_reducible first | exact h_post _ _ | refine mn_wl_MO_isSameName_24 (fun _ _ => ?_) _ _ _ _ _ _ | refine q_mb ?_ ?_ | refine q_ma (fun _ => ?_) | refine q_me (fun _ => ?_) | refine q_mi ?_ | exact id
theorem mn_wl_MO_symbol_113 {post post' : Int32 → gMem → Prop}  (h_post : ∀ y0 y1, post y0 y1 → post' y0 y1) : ∀ (n : Nat) (z0 : Int32) (z1 : Int32) (z2 : Int32) (z3 : Int32) (z4 : Int32) (z5 : Int32) (z6 : Int32) (z7 : gMem), wl_MO_symbol_113 post n z0 z1 z2 z3 z4 z5 z6 z7 → wl_MO_symbol_113 post' n z0 z1 z2 z3 z4 z5 z6 z7 := by
  intro n
  induction n with
  | zero => intro z0 z1 z2 z3 z4 z5 z6 z7 h; exact h
  | succ n ih =>
    intro z0 z1 z2 z3 z4 z5 z6 z7
    unfold wl_MO_symbol_113
    repeat' with_reducible first | exact h_post _ _ | exact ih _ _ _ _ _ _ _ _ | refine mn_wp_MO_isSymbol (fun _ _ => ?_) | refine mn_wp_MO_isSameName (fun _ _ => ?_) | refine q_mb ?_ ?_ | refine q_ma (fun _ => ?_) | refine q_me (fun _ => ?_) | refine q_mi ?_ | exact id
theorem mn_wl_MO_symbol_77 {post post' : Int32 → gMem → Prop}  (h_post : ∀ y0 y1, post y0 y1 → post' y0 y1) : ∀ (n : Nat) (z0 : Int32) (z1 : Int32) (z2 : Int32) (z3 : Int32) (z4 : Int32) (z5 : Int32) (z6 : Int32) (z7 : Int32) (z8 : gMem), wl_MO_symbol_77 post n z0 z1 z2 z3 z4 z5 z6 z7 z8 → wl_MO_symbol_77 post' n z0 z1 z2 z3 z4 z5 z6 z7 z8 := by
  intro n
  induction n with
  | zero => intro z0 z1 z2 z3 z4 z5 z6 z7 z8 h; exact h
  | succ n ih =>
    intro z0 z1 z2 z3 z4 z5 z6 z7 z8
    unfold wl_MO_symbol_77
    repeat' with_reducible first | exact h_post _ _ | exact ih _ _ _ _ _ _ _ _ _ | refine mn_wl_MO_symbol_113 (fun _ _ => ?_) _ _ _ _ _ _ _ _ _ | refine q_mb ?_ ?_ | refine q_ma (fun _ => ?_) | refine q_me (fun _ => ?_) | refine q_mi ?_ | exact id
theorem mn_wp_MO_symbol {post post' : Int32 → gMem → Prop} {a0 : Int32} {a1 : Int32} {a2 : Int32} {a3 : Int32} {a4 : Int32} {M : gMem} (h_post : ∀ y0 y1, post y0 y1 → post' y0 y1) : wp_MO_symbol post a0 a1 a2 a3 a4 M → wp_MO_symbol post' a0 a1 a2 a3 a4 M := by
  unfold wp_MO_symbol
  repeat' with_reducible first | exact h_post _ _ | refine mn_wl_MO_symbol_77 (fun _ _ => ?_) _ _ _ _ _ _ _ _ _ _ | refine q_mb ?_ ?_ | refine q_ma (fun _ => ?_) | refine q_me (fun _ => ?_) | refine q_mi ?_ | exact id
theorem mn_wj_MO_isKind_71 {post post' : Bool → gMem → Prop} {v0 : Int32} {M : gMem} (h_post : ∀ y0 y1, post y0 y1 → post' y0 y1) : wj_MO_isKind_71 post v0 M → wj_MO_isKind_71 post' v0 M := by
  unfold wj_MO_isKind_71
  repeat' with_reducible first | exact h_post _ _ | refine q_mb ?_ ?_ | refine q_ma (fun _ => ?_) | refine q_me (fun _ => ?_) | refine q_mi ?_ | exact id
theorem mn_wj_MO_isKind_59 {post post' : Bool → gMem → Prop} {v0 : Int32} {M : gMem} (h_post : ∀ y0 y1, post y0 y1 → post' y0 y1) : wj_MO_isKind_59 post v0 M → wj_MO_isKind_59 post' v0 M := by
  unfold wj_MO_isKind_59
  repeat' with_reducible first | exact h_post _ _ | refine mn_wj_MO_isKind_71 (fun _ _ => ?_) | refine q_mb ?_ ?_ | refine q_ma (fun _ => ?_) | refine q_me (fun _ => ?_) | refine q_mi ?_ | exact id
theorem mn_wj_MO_isKind_47 {post post' : Bool → gMem → Prop} {v0 : Int32} {M : gMem} (h_post : ∀ y0 y1, post y0 y1 → post' y0 y1) : wj_MO_isKind_47 post v0 M → wj_MO_isKind_47 post' v0 M := by
  unfold wj_MO_isKind_47
  repeat' with_reducible first | exact h_post _ _ | refine mn_wj_MO_isKind_59 (fun _ _ => ?_) | refine q_mb ?_ ?_ | refine q_ma (fun _ => ?_) | refine q_me (fun _ => ?_) | refine q_mi ?_ | exact id
theorem mn_wj_MO_isKind_35 {post post' : Bool → gMem → Prop} {v0 : Int32} {M : gMem} (h_post : ∀ y0 y1, post y0 y1 → post' y0 y1) : wj_MO_isKind_35 post v0 M → wj_MO_isKind_35 post' v0 M := by
  unfold wj_MO_isKind_35
  repeat' with_reducible first | exact h_post _ _ | refine mn_wj_MO_isKind_47 (fun _ _ => ?_) | refine q_mb ?_ ?_ | refine q_ma (fun _ => ?_) | refine q_me (fun _ => ?_) | refine q_mi ?_ | exact id
theorem mn_wp_MO_isKind {post post' : Bool → gMem → Prop} {a0 : Int32} {M : gMem} (h_post : ∀ y0 y1, post y0 y1 → post' y0 y1) : wp_MO_isKind post a0 M → wp_MO_isKind post' a0 M := by
  unfold wp_MO_isKind
  repeat' with_reducible first | exact h_post _ _ | refine mn_wj_MO_isKind_35 (fun _ _ => ?_) | refine q_mb ?_ ?_ | refine q_ma (fun _ => ?_) | refine q_me (fun _ => ?_) | refine q_mi ?_ | exact id
theorem mn_wp_MO_isKindOf {post post' : Bool → gMem → Prop} {a0 : Int32} {a1 : Int32} {M : gMem} (h_post : ∀ y0 y1, post y0 y1 → post' y0 y1) : wp_MO_isKindOf post a0 a1 M → wp_MO_isKindOf post' a0 a1 M := by
  unfold wp_MO_isKindOf
  repeat' with_reducible first | exact h_post _ _ | refine mn_wp_MO_isKind (fun _ _ => ?_) | refine q_mb ?_ ?_ | refine q_ma (fun _ => ?_) | refine q_me (fun _ => ?_) | refine q_mi ?_ | exact id
theorem mn_wp_MO_isAlone {post post' : Bool → gMem → Prop} {a0 : Int32} {M : gMem} (h_post : ∀ y0 y1, post y0 y1 → post' y0 y1) : wp_MO_isAlone post a0 M → wp_MO_isAlone post' a0 M := by
  unfold wp_MO_isAlone
  repeat' with_reducible first | exact h_post _ _ | refine q_mb ?_ ?_ | refine q_ma (fun _ => ?_) | refine q_me (fun _ => ?_) | refine q_mi ?_ | exact id
theorem mn_wp_MO_isSkip {post post' : Bool → gMem → Prop} {a0 : Int64} {M : gMem} (h_post : ∀ y0 y1, post y0 y1 → post' y0 y1) : wp_MO_isSkip post a0 M → wp_MO_isSkip post' a0 M := by
  unfold wp_MO_isSkip
  repeat' with_reducible first | exact h_post _ _ | refine q_mb ?_ ?_ | refine q_ma (fun _ => ?_) | refine q_me (fun _ => ?_) | refine q_mi ?_ | exact id
theorem mn_wj_MO_relocation_85 {post post' : Int32 → gMem → Prop} {v1 : Int32} {v2 : Int32} {v3 : Int32} {v4 : Int32} {v5 : Int32} {v6 : Int32} {M : gMem} (h_post : ∀ y0 y1, post y0 y1 → post' y0 y1) : wj_MO_relocation_85 post v1 v2 v3 v4 v5 v6 M → wj_MO_relocation_85 post' v1 v2 v3 v4 v5 v6 M := by
  unfold wj_MO_relocation_85
  repeat' with_reducible first | exact h_post _ _ | refine q_mb ?_ ?_ | refine q_ma (fun _ => ?_) | refine q_me (fun _ => ?_) | refine q_mi ?_ | exact id
theorem mn_wj_MO_relocation_67 {post post' : Int32 → gMem → Prop} {v1 : Int32} {v2 : Int32} {v3 : Int32} {v4 : Int32} {v5 : Int32} {v6 : Int32} {s0 : Int32} {s1 : Int32} {M : gMem} (h_post : ∀ y0 y1, post y0 y1 → post' y0 y1) : wj_MO_relocation_67 post v1 v2 v3 v4 v5 v6 s0 s1 M → wj_MO_relocation_67 post' v1 v2 v3 v4 v5 v6 s0 s1 M := by
  unfold wj_MO_relocation_67
  repeat' with_reducible first | exact h_post _ _ | refine mn_wj_MO_relocation_85 (fun _ _ => ?_) | refine mn_wp_MO_isSkip (fun _ _ => ?_) | refine q_mb ?_ ?_ | refine q_ma (fun _ => ?_) | refine q_me (fun _ => ?_) | refine q_mi ?_ | exact id
theorem mn_wp_MO_relocation {post post' : Int32 → gMem → Prop} {a0 : Int32} {a1 : Int32} {a2 : Int32} {a3 : Int32} {a4 : Int32} {M : gMem} (h_post : ∀ y0 y1, post y0 y1 → post' y0 y1) : wp_MO_relocation post a0 a1 a2 a3 a4 M → wp_MO_relocation post' a0 a1 a2 a3 a4 M := by
  unfold wp_MO_relocation
  repeat' with_reducible first | exact h_post _ _ | refine mn_wp_MO_isKindOf (fun _ _ => ?_) | refine mn_wp_MO_isAlone (fun _ _ => ?_) | refine mn_wj_MO_relocation_67 (fun _ _ => ?_) | refine q_mb ?_ ?_ | refine q_ma (fun _ => ?_) | refine q_me (fun _ => ?_) | refine q_mi ?_ | exact id
theorem mn_wp_MO_widthOf {post post' : Int32 → gMem → Prop} {a0 : Int32} {a1 : Int32} {M : gMem} (h_post : ∀ y0 y1, post y0 y1 → post' y0 y1) : wp_MO_widthOf post a0 a1 M → wp_MO_widthOf post' a0 a1 M := by
  unfold wp_MO_widthOf
  repeat' with_reducible first | exact h_post _ _ | refine q_mb ?_ ?_ | refine q_ma (fun _ => ?_) | refine q_me (fun _ => ?_) | refine q_mi ?_ | exact id
theorem mn_wl_MO_unfit_108 {post post' : Int32 → gMem → Prop}  (h_post : ∀ y0 y1, post y0 y1 → post' y0 y1) : ∀ (n : Nat) (z0 : Int32) (z1 : gMem), wl_MO_unfit_108 post n z0 z1 → wl_MO_unfit_108 post' n z0 z1 := by
  intro n
  induction n with
  | zero => intro z0 z1 h; exact h
  | succ n ih =>
    intro z0 z1
    unfold wl_MO_unfit_108
    repeat' with_reducible first | exact h_post _ _ | exact ih _ _ | refine mn_wp_MO_widthOf (fun _ _ => ?_) | refine q_mb ?_ ?_ | refine q_ma (fun _ => ?_) | refine q_me (fun _ => ?_) | refine q_mi ?_ | exact id
theorem mn_wl_MO_unfit_37 {post post' : Int32 → gMem → Prop}  (h_post : ∀ y0 y1, post y0 y1 → post' y0 y1) : ∀ (n : Nat) (z0 : Int32) (z1 : gMem), wl_MO_unfit_37 post n z0 z1 → wl_MO_unfit_37 post' n z0 z1 := by
  intro n
  induction n with
  | zero => intro z0 z1 h; exact h
  | succ n ih =>
    intro z0 z1
    unfold wl_MO_unfit_37
    repeat' with_reducible first | exact h_post _ _ | exact ih _ _ | refine mn_wl_MO_unfit_108 (fun _ _ => ?_) _ _ _ | refine q_mb ?_ ?_ | refine q_ma (fun _ => ?_) | refine q_me (fun _ => ?_) | refine q_mi ?_ | exact id
theorem mn_wl_MO_unfit_2 {post post' : Int32 → gMem → Prop}  (h_post : ∀ y0 y1, post y0 y1 → post' y0 y1) : ∀ (n : Nat) (z0 : Int32) (z1 : gMem), wl_MO_unfit_2 post n z0 z1 → wl_MO_unfit_2 post' n z0 z1 := by
  intro n
  induction n with
  | zero => intro z0 z1 h; exact h
  | succ n ih =>
    intro z0 z1
    unfold wl_MO_unfit_2
    repeat' with_reducible first | exact h_post _ _ | exact ih _ _ | refine mn_wl_MO_unfit_37 (fun _ _ => ?_) _ _ _ | refine q_mb ?_ ?_ | refine q_ma (fun _ => ?_) | refine q_me (fun _ => ?_) | refine q_mi ?_ | exact id
theorem mn_wp_MO_unfit {post post' : Int32 → gMem → Prop} {M : gMem} (h_post : ∀ y0 y1, post y0 y1 → post' y0 y1) : wp_MO_unfit post M → wp_MO_unfit post' M := by
  unfold wp_MO_unfit
  repeat' with_reducible first | exact h_post _ _ | refine mn_wl_MO_unfit_2 (fun _ _ => ?_) _ _ _ | refine q_mb ?_ ?_ | refine q_ma (fun _ => ?_) | refine q_me (fun _ => ?_) | refine q_mi ?_ | exact id
theorem mn_wj_MO_order_49 {post post' : Int32 → gMem → Prop} {k6 k6' : Int32 → Int32 → Int32 → gMem → Prop} {k14 k14' : Int32 → Int32 → Int32 → Int32 → gMem → Prop} {v1 : Int32} {v2 : Int32} {v3 : Int32} {v4 : Int32} {s0 : Int32} {s1 : Int32} {M : gMem} (h_post : ∀ y0 y1, post y0 y1 → post' y0 y1) (h_k6 : ∀ y0 y1 y2 y3, k6 y0 y1 y2 y3 → k6' y0 y1 y2 y3) (h_k14 : ∀ y0 y1 y2 y3 y4, k14 y0 y1 y2 y3 y4 → k14' y0 y1 y2 y3 y4) : wj_MO_order_49 post k6 k14 v1 v2 v3 v4 s0 s1 M → wj_MO_order_49 post' k6' k14' v1 v2 v3 v4 s0 s1 M := by
  unfold wj_MO_order_49
  repeat' with_reducible first | exact h_post _ _ | exact h_k6 _ _ _ _ | exact h_k14 _ _ _ _ _ | refine q_mb ?_ ?_ | refine q_ma (fun _ => ?_) | refine q_me (fun _ => ?_) | refine q_mi ?_ | exact id
theorem mn_wj_MO_order_40 {post post' : Int32 → gMem → Prop} {k6 k6' : Int32 → Int32 → Int32 → gMem → Prop} {k14 k14' : Int32 → Int32 → Int32 → Int32 → gMem → Prop} {v1 : Int32} {v2 : Int32} {v3 : Int32} {v4 : Int32} {s0 : Int32} {M : gMem} (h_post : ∀ y0 y1, post y0 y1 → post' y0 y1) (h_k6 : ∀ y0 y1 y2 y3, k6 y0 y1 y2 y3 → k6' y0 y1 y2 y3) (h_k14 : ∀ y0 y1 y2 y3 y4, k14 y0 y1 y2 y3 y4 → k14' y0 y1 y2 y3 y4) : wj_MO_order_40 post k6 k14 v1 v2 v3 v4 s0 M → wj_MO_order_40 post' k6' k14' v1 v2 v3 v4 s0 M := by
  unfold wj_MO_order_40
  repeat' with_reducible first | exact h_post _ _ | exact h_k6 _ _ _ _ | exact h_k14 _ _ _ _ _ | refine mn_wj_MO_order_49 (fun _ _ => ?_) (fun _ _ _ _ => ?_) (fun _ _ _ _ _ => ?_) | refine q_mb ?_ ?_ | refine q_ma (fun _ => ?_) | refine q_me (fun _ => ?_) | refine q_mi ?_ | exact id
theorem mn_wl_MO_order_14 {post post' : Int32 → gMem → Prop} {k6 k6' : Int32 → Int32 → Int32 → gMem → Prop}  (h_post : ∀ y0 y1, post y0 y1 → post' y0 y1) (h_k6 : ∀ y0 y1 y2 y3, k6 y0 y1 y2 y3 → k6' y0 y1 y2 y3) : ∀ (n : Nat) (z0 : Int32) (z1 : Int32) (z2 : Int32) (z3 : Int32) (z4 : gMem), wl_MO_order_14 post k6 n z0 z1 z2 z3 z4 → wl_MO_order_14 post' k6' n z0 z1 z2 z3 z4 := by
  intro n
  induction n with
  | zero => intro z0 z1 z2 z3 z4 h; exact h
  | succ n ih =>
    intro z0 z1 z2 z3 z4
    unfold wl_MO_order_14
    repeat' with_reducible first | exact h_post _ _ | exact h_k6 _ _ _ _ | exact ih _ _ _ _ _ | refine mn_wj_MO_order_40 (fun _ _ => ?_) (fun _ _ _ _ => ?_) (fun _ _ _ _ _ => ?_) | refine q_mb ?_ ?_ | refine q_ma (fun _ => ?_) | refine q_me (fun _ => ?_) | refine q_mi ?_ | exact id
theorem mn_wl_MO_order_6 {post post' : Int32 → gMem → Prop}  (h_post : ∀ y0 y1, post y0 y1 → post' y0 y1) : ∀ (n : Nat) (z0 : Int32) (z1 : Int32) (z2 : Int32) (z3 : gMem), wl_MO_order_6 post n z0 z1 z2 z3 → wl_MO_order_6 post' n z0 z1 z2 z3 := by
  intro n
  induction n with
  | zero => intro z0 z1 z2 z3 h; exact h
  | succ n ih =>
    intro z0 z1 z2 z3
    unfold wl_MO_order_6
    repeat' with_reducible first | exact h_post _ _ | exact ih _ _ _ _ | refine mn_wl_MO_order_14 (fun _ _ => ?_) (fun _ _ _ _ => ?_) _ _ _ _ _ _ | refine q_mb ?_ ?_ | refine q_ma (fun _ => ?_) | refine q_me (fun _ => ?_) | refine q_mi ?_ | exact id
theorem mn_wp_MO_order {post post' : Int32 → gMem → Prop} {M : gMem} (h_post : ∀ y0 y1, post y0 y1 → post' y0 y1) : wp_MO_order post M → wp_MO_order post' M := by
  unfold wp_MO_order
  repeat' with_reducible first | exact h_post _ _ | refine mn_wl_MO_order_6 (fun _ _ => ?_) _ _ _ _ _ | refine q_mb ?_ ?_ | refine q_ma (fun _ => ?_) | refine q_me (fun _ => ?_) | refine q_mi ?_ | exact id
theorem mn_wp_MO_begin {post post' : gMem → Prop} {M : gMem} (h_post : ∀ y0, post y0 → post' y0) : wp_MO_begin post M → wp_MO_begin post' M := by
  unfold wp_MO_begin
  repeat' with_reducible first | exact h_post _ | refine q_mb ?_ ?_ | refine q_ma (fun _ => ?_) | refine q_me (fun _ => ?_) | refine q_mi ?_ | exact id
theorem mn_wl_MO_stringFor_97 {post post' : Int32 → gMem → Prop}  (h_post : ∀ y0 y1, post y0 y1 → post' y0 y1) : ∀ (n : Nat) (z0 : Int32) (z1 : Int32) (z2 : gMem), wl_MO_stringFor_97 post n z0 z1 z2 → wl_MO_stringFor_97 post' n z0 z1 z2 := by
  intro n
  induction n with
  | zero => intro z0 z1 z2 h; exact h
  | succ n ih =>
    intro z0 z1 z2
    unfold wl_MO_stringFor_97
    repeat' with_reducible first | exact h_post _ _ | exact ih _ _ _ | refine q_mb ?_ ?_ | refine q_ma (fun _ => ?_) | refine q_me (fun _ => ?_) | refine q_mi ?_ | exact id
theorem mn_wl_MO_stringFor_37 {post post' : Int32 → gMem → Prop} {k2 k2' : Int32 → gMem → Prop}  (h_post : ∀ y0 y1, post y0 y1 → post' y0 y1) (h_k2 : ∀ y0 y1, k2 y0 y1 → k2' y0 y1) : ∀ (n : Nat) (z0 : Int32) (z1 : Int32) (z2 : Int32) (z3 : gMem), wl_MO_stringFor_37 post k2 n z0 z1 z2 z3 → wl_MO_stringFor_37 post' k2' n z0 z1 z2 z3 := by
  intro n
  induction n with
  | zero => intro z0 z1 z2 z3 h; exact h
  | succ n ih =>
    intro z0 z1 z2 z3
    unfold wl_MO_stringFor_37
    repeat' with_reducible first | exact h_post _ _ | exact h_k2 _ _ | exact ih _ _ _ _ | refine q_mb ?_ ?_ | refine q_ma (fun _ => ?_) | refine q_me (fun _ => ?_) | refine q_mi ?_ | exact id
theorem mn_wl_MO_stringFor_2 {post post' : Int32 → gMem → Prop}  (h_post : ∀ y0 y1, post y0 y1 → post' y0 y1) : ∀ (n : Nat) (z0 : Int32) (z1 : gMem), wl_MO_stringFor_2 post n z0 z1 → wl_MO_stringFor_2 post' n z0 z1 := by
  intro n
  induction n with
  | zero => intro z0 z1 h; exact h
  | succ n ih =>
    intro z0 z1
    unfold wl_MO_stringFor_2
    repeat' with_reducible first | exact h_post _ _ | exact ih _ _ | refine mn_wl_MO_stringFor_97 (fun _ _ => ?_) _ _ _ _ | refine mn_wl_MO_stringFor_37 (fun _ _ => ?_) (fun _ _ => ?_) _ _ _ _ _ | refine q_mb ?_ ?_ | refine q_ma (fun _ => ?_) | refine q_me (fun _ => ?_) | refine q_mi ?_ | exact id
theorem mn_wp_MO_stringFor {post post' : Int32 → gMem → Prop} {M : gMem} (h_post : ∀ y0 y1, post y0 y1 → post' y0 y1) : wp_MO_stringFor post M → wp_MO_stringFor post' M := by
  unfold wp_MO_stringFor
  repeat' with_reducible first | exact h_post _ _ | refine mn_wl_MO_stringFor_2 (fun _ _ => ?_) _ _ _ | refine q_mb ?_ ?_ | refine q_ma (fun _ => ?_) | refine q_me (fun _ => ?_) | refine q_mi ?_ | exact id
theorem mn_wl_MO_sizeOfSymbolNames_53 {post post' : Int32 → gMem → Prop} {k6 k6' : Int32 → gMem → Prop} {k18 k18' : Int32 → Int32 → gMem → Prop}  (h_post : ∀ y0 y1, post y0 y1 → post' y0 y1) (h_k6 : ∀ y0 y1, k6 y0 y1 → k6' y0 y1) (h_k18 : ∀ y0 y1 y2, k18 y0 y1 y2 → k18' y0 y1 y2) : ∀ (n : Nat) (z0 : Int32) (z1 : Int32) (z2 : Int32) (z3 : gMem), wl_MO_sizeOfSymbolNames_53 post k6 k18 n z0 z1 z2 z3 → wl_MO_sizeOfSymbolNames_53 post' k6' k18' n z0 z1 z2 z3 := by
  intro n
  induction n with
  | zero => intro z0 z1 z2 z3 h; exact h
  | succ n ih =>
    intro z0 z1 z2 z3
    unfold wl_MO_sizeOfSymbolNames_53
    repeat' with_reducible first | exact h_post _ _ | exact h_k6 _ _ | exact h_k18 _ _ _ | exact ih _ _ _ _ | refine mn_wp_MO_stringFor (fun _ _ => ?_) | refine q_mb ?_ ?_ | refine q_ma (fun _ => ?_) | refine q_me (fun _ => ?_) | refine q_mi ?_ | exact id
theorem mn_wl_MO_sizeOfSymbolNames_18 {post post' : Int32 → gMem → Prop} {k6 k6' : Int32 → gMem → Prop}  (h_post : ∀ y0 y1, post y0 y1 → post' y0 y1) (h_k6 : ∀ y0 y1, k6 y0 y1 → k6' y0 y1) : ∀ (n : Nat) (z0 : Int32) (z1 : Int32) (z2 : gMem), wl_MO_sizeOfSymbolNames_18 post k6 n z0 z1 z2 → wl_MO_sizeOfSymbolNames_18 post' k6' n z0 z1 z2 := by
  intro n
  induction n with
  | zero => intro z0 z1 z2 h; exact h
  | succ n ih =>
    intro z0 z1 z2
    unfold wl_MO_sizeOfSymbolNames_18
    repeat' with_reducible first | exact h_post _ _ | exact h_k6 _ _ | exact ih _ _ _ | refine mn_wl_MO_sizeOfSymbolNames_53 (fun _ _ => ?_) (fun _ _ => ?_) (fun _ _ _ => ?_) _ _ _ _ _ | refine q_mb ?_ ?_ | refine q_ma (fun _ => ?_) | refine q_me (fun _ => ?_) | refine q_mi ?_ | exact id
theorem mn_wl_MO_sizeOfSymbolNames_6 {post post' : Int32 → gMem → Prop}  (h_post : ∀ y0 y1, post y0 y1 → post' y0 y1) : ∀ (n : Nat) (z0 : Int32) (z1 : gMem), wl_MO_sizeOfSymbolNames_6 post n z0 z1 → wl_MO_sizeOfSymbolNames_6 post' n z0 z1 := by
  intro n
  induction n with
  | zero => intro z0 z1 h; exact h
  | succ n ih =>
    intro z0 z1
    unfold wl_MO_sizeOfSymbolNames_6
    repeat' with_reducible first | exact h_post _ _ | exact ih _ _ | refine mn_wl_MO_sizeOfSymbolNames_18 (fun _ _ => ?_) (fun _ _ => ?_) _ _ _ _ | refine q_mb ?_ ?_ | refine q_ma (fun _ => ?_) | refine q_me (fun _ => ?_) | refine q_mi ?_ | exact id
theorem mn_wp_MO_sizeOfSymbolNames {post post' : Int32 → gMem → Prop} {M : gMem} (h_post : ∀ y0 y1, post y0 y1 → post' y0 y1) : wp_MO_sizeOfSymbolNames post M → wp_MO_sizeOfSymbolNames post' M := by
  unfold wp_MO_sizeOfSymbolNames
  repeat' with_reducible first | exact h_post _ _ | refine mn_wp_MO_begin (fun _ => ?_) | refine mn_wl_MO_sizeOfSymbolNames_6 (fun _ _ => ?_) _ _ _ | refine q_mb ?_ ?_ | refine q_ma (fun _ => ?_) | refine q_me (fun _ => ?_) | refine q_mi ?_ | exact id
theorem mn_wl_MO_takeTitle_12 {post post' : gMem → Prop}  (h_post : ∀ y0, post y0 → post' y0) : ∀ (n : Nat) (z0 : Int32) (z1 : gMem), wl_MO_takeTitle_12 post n z0 z1 → wl_MO_takeTitle_12 post' n z0 z1 := by
  intro n
  induction n with
  | zero => intro z0 z1 h; exact h
  | succ n ih =>
    intro z0 z1
    unfold wl_MO_takeTitle_12
    repeat' with_reducible first | exact h_post _ | exact ih _ _ | refine q_mb ?_ ?_ | refine q_ma (fun _ => ?_) | refine q_me (fun _ => ?_) | refine q_mi ?_ | exact id
theorem mn_wp_MO_takeTitle {post post' : gMem → Prop} {a0 : Int32} {M : gMem} (h_post : ∀ y0, post y0 → post' y0) : wp_MO_takeTitle post a0 M → wp_MO_takeTitle post' a0 M := by
  unfold wp_MO_takeTitle
  repeat' with_reducible first | exact h_post _ | refine mn_wl_MO_takeTitle_12 (fun _ => ?_) _ _ _ | refine q_mb ?_ ?_ | refine q_ma (fun _ => ?_) | refine q_me (fun _ => ?_) | refine q_mi ?_ | exact id
theorem mn_wl_MO_sizeOfTitles_6 {post post' : Int32 → gMem → Prop}  (h_post : ∀ y0 y1, post y0 y1 → post' y0 y1) : ∀ (n : Nat) (z0 : Int32) (z1 : gMem), wl_MO_sizeOfTitles_6 post n z0 z1 → wl_MO_sizeOfTitles_6 post' n z0 z1 := by
  intro n
  induction n with
  | zero => intro z0 z1 h; exact h
  | succ n ih =>
    intro z0 z1
    unfold wl_MO_sizeOfTitles_6
    repeat' with_reducible first | exact h_post _ _ | exact ih _ _ | refine mn_wp_MO_takeTitle (fun _ => ?_) | refine mn_wp_MO_stringFor (fun _ _ => ?_) | refine q_mb ?_ ?_ | refine q_ma (fun _ => ?_) | refine q_me (fun _ => ?_) | refine q_mi ?_ | exact id
theorem mn_wp_MO_sizeOfTitles {post post' : Int32 → gMem → Prop} {M : gMem} (h_post : ∀ y0 y1, post y0 y1 → post' y0 y1) : wp_MO_sizeOfTitles post M → wp_MO_sizeOfTitles post' M := by
  unfold wp_MO_sizeOfTitles
  repeat' with_reducible first | exact h_post _ _ | refine mn_wp_MO_begin (fun _ => ?_) | refine mn_wl_MO_sizeOfTitles_6 (fun _ _ => ?_) _ _ _ | refine q_mb ?_ ?_ | refine q_ma (fun _ => ?_) | refine q_me (fun _ => ?_) | refine q_mi ?_ | exact id
theorem mn_wp_MO_roundUp {post post' : Int32 → gMem → Prop} {a0 : Int32} {a1 : Int32} {M : gMem} (h_post : ∀ y0 y1, post y0 y1 → post' y0 y1) : wp_MO_roundUp post a0 a1 M → wp_MO_roundUp post' a0 a1 M := by
  unfold wp_MO_roundUp
  repeat' with_reducible first | exact h_post _ _ | refine q_mb ?_ ?_ | refine q_ma (fun _ => ?_) | refine q_me (fun _ => ?_) | refine q_mi ?_ | exact id
theorem mn_wl_MO_relocationsOf_4 {post post' : Int32 → gMem → Prop}  (h_post : ∀ y0 y1, post y0 y1 → post' y0 y1) : ∀ (n : Nat) (z0 : Int32) (z1 : Int32) (z2 : Int32) (z3 : gMem), wl_MO_relocationsOf_4 post n z0 z1 z2 z3 → wl_MO_relocationsOf_4 post' n z0 z1 z2 z3 := by
  intro n
  induction n with
  | zero => intro z0 z1 z2 z3 h; exact h
  | succ n ih =>
    intro z0 z1 z2 z3
    unfold wl_MO_relocationsOf_4
    repeat' with_reducible first | exact h_post _ _ | exact ih _ _ _ _ | refine q_mb ?_ ?_ | refine q_ma (fun _ => ?_) | refine q_me (fun _ => ?_) | refine q_mi ?_ | exact id
theorem mn_wp_MO_relocationsOf {post post' : Int32 → gMem → Prop} {a0 : Int32} {M : gMem} (h_post : ∀ y0 y1, post y0 y1 → post' y0 y1) : wp_MO_relocationsOf post a0 M → wp_MO_relocationsOf post' a0 M := by
  unfold wp_MO_relocationsOf
  repeat' with_reducible first | exact h_post _ _ | refine mn_wl_MO_relocationsOf_4 (fun _ _ => ?_) _ _ _ _ _ | refine q_mb ?_ ?_ | refine q_ma (fun _ => ?_) | refine q_me (fun _ => ?_) | refine q_mi ?_ | exact id
theorem mn_wj_MO_lay_295 {post post' : Int32 → gMem → Prop} {k249 k249' : Int32 → Int32 → gMem → Prop} {v3 : Int32} {s0 : Int32} {M : gMem} (h_post : ∀ y0 y1, post y0 y1 → post' y0 y1) (h_k249 : ∀ y0 y1 y2, k249 y0 y1 y2 → k249' y0 y1 y2) : wj_MO_lay_295 post k249 v3 s0 M → wj_MO_lay_295 post' k249' v3 s0 M := by
  unfold wj_MO_lay_295
  repeat' with_reducible first | exact h_post _ _ | exact h_k249 _ _ _ | refine q_mb ?_ ?_ | refine q_ma (fun _ => ?_) | refine q_me (fun _ => ?_) | refine q_mi ?_ | exact id
theorem mn_wl_MO_lay_249 {post post' : Int32 → gMem → Prop}  (h_post : ∀ y0 y1, post y0 y1 → post' y0 y1) : ∀ (n : Nat) (z0 : Int32) (z1 : Int32) (z2 : gMem), wl_MO_lay_249 post n z0 z1 z2 → wl_MO_lay_249 post' n z0 z1 z2 := by
  intro n
  induction n with
  | zero => intro z0 z1 z2 h; exact h
  | succ n ih =>
    intro z0 z1 z2
    unfold wl_MO_lay_249
    repeat' with_reducible first | exact h_post _ _ | exact ih _ _ _ | refine mn_wp_MO_roundUp (fun _ _ => ?_) | refine mn_wj_MO_lay_295 (fun _ _ => ?_) (fun _ _ _ => ?_) | refine q_mb ?_ ?_ | refine q_ma (fun _ => ?_) | refine q_me (fun _ => ?_) | refine q_mi ?_ | exact id
theorem mn_wj_MO_lay_210 {post post' : Int32 → gMem → Prop} {k159 k159' : Int32 → Int32 → gMem → Prop} {v1 : Int32} {v3 : Int32} {v4 : Int32} {s0 : Int32} {s1 : Int32} {M : gMem} (h_post : ∀ y0 y1, post y0 y1 → post' y0 y1) (h_k159 : ∀ y0 y1 y2, k159 y0 y1 y2 → k159' y0 y1 y2) : wj_MO_lay_210 post k159 v1 v3 v4 s0 s1 M → wj_MO_lay_210 post' k159' v1 v3 v4 s0 s1 M := by
  unfold wj_MO_lay_210
  repeat' with_reducible first | exact h_post _ _ | exact h_k159 _ _ _ | refine q_mb ?_ ?_ | refine q_ma (fun _ => ?_) | refine q_me (fun _ => ?_) | refine q_mi ?_ | exact id
theorem mn_wj_MO_lay_190 {post post' : Int32 → gMem → Prop} {k159 k159' : Int32 → Int32 → gMem → Prop} {v1 : Int32} {v3 : Int32} {s0 : Int32} {M : gMem} (h_post : ∀ y0 y1, post y0 y1 → post' y0 y1) (h_k159 : ∀ y0 y1 y2, k159 y0 y1 y2 → k159' y0 y1 y2) : wj_MO_lay_190 post k159 v1 v3 s0 M → wj_MO_lay_190 post' k159' v1 v3 s0 M := by
  unfold wj_MO_lay_190
  repeat' with_reducible first | exact h_post _ _ | exact h_k159 _ _ _ | refine mn_wj_MO_lay_210 (fun _ _ => ?_) (fun _ _ _ => ?_) | refine q_mb ?_ ?_ | refine q_ma (fun _ => ?_) | refine q_me (fun _ => ?_) | refine q_mi ?_ | exact id
theorem mn_wj_MO_lay_185 {post post' : Int32 → gMem → Prop} {k159 k159' : Int32 → Int32 → gMem → Prop} {v1 : Int32} {v3 : Int32} {M : gMem} (h_post : ∀ y0 y1, post y0 y1 → post' y0 y1) (h_k159 : ∀ y0 y1 y2, k159 y0 y1 y2 → k159' y0 y1 y2) : wj_MO_lay_185 post k159 v1 v3 M → wj_MO_lay_185 post' k159' v1 v3 M := by
  unfold wj_MO_lay_185
  repeat' with_reducible first | exact h_post _ _ | exact h_k159 _ _ _ | refine mn_wj_MO_lay_190 (fun _ _ => ?_) (fun _ _ _ => ?_) | refine q_mb ?_ ?_ | refine q_ma (fun _ => ?_) | refine q_me (fun _ => ?_) | refine q_mi ?_ | exact id
theorem mn_wl_MO_lay_159 {post post' : Int32 → gMem → Prop}  (h_post : ∀ y0 y1, post y0 y1 → post' y0 y1) : ∀ (n : Nat) (z0 : Int32) (z1 : Int32) (z2 : gMem), wl_MO_lay_159 post n z0 z1 z2 → wl_MO_lay_159 post' n z0 z1 z2 := by
  intro n
  induction n with
  | zero => intro z0 z1 z2 h; exact h
  | succ n ih =>
    intro z0 z1 z2
    unfold wl_MO_lay_159
    repeat' with_reducible first | exact h_post _ _ | exact ih _ _ _ | refine mn_wp_MO_sizeOfTitles (fun _ _ => ?_) | refine mn_wl_MO_lay_249 (fun _ _ => ?_) _ _ _ _ | refine mn_wj_MO_lay_185 (fun _ _ => ?_) (fun _ _ _ => ?_) | refine mn_wj_MO_lay_190 (fun _ _ => ?_) (fun _ _ _ => ?_) | refine q_mb ?_ ?_ | refine q_ma (fun _ => ?_) | refine q_me (fun _ => ?_) | refine q_mi ?_ | exact id
theorem mn_wl_MO_lay_90 {post post' : Int32 → gMem → Prop}  (h_post : ∀ y0 y1, post y0 y1 → post' y0 y1) : ∀ (n : Nat) (z0 : Int32) (z1 : Int32) (z2 : gMem), wl_MO_lay_90 post n z0 z1 z2 → wl_MO_lay_90 post' n z0 z1 z2 := by
  intro n
  induction n with
  | zero => intro z0 z1 z2 h; exact h
  | succ n ih =>
    intro z0 z1 z2
    unfold wl_MO_lay_90
    repeat' with_reducible first | exact h_post _ _ | exact ih _ _ _ | refine mn_wp_MO_order (fun _ _ => ?_) | refine mn_wp_MO_sizeOfSymbolNames (fun _ _ => ?_) | refine mn_wl_MO_lay_159 (fun _ _ => ?_) _ _ _ _ | refine mn_wp_MO_relocationsOf (fun _ _ => ?_) | refine q_mb ?_ ?_ | refine q_ma (fun _ => ?_) | refine q_me (fun _ => ?_) | refine q_mi ?_ | exact id
theorem mn_wl_MO_lay_5 {post post' : Int32 → gMem → Prop}  (h_post : ∀ y0 y1, post y0 y1 → post' y0 y1) : ∀ (n : Nat) (z0 : Int32) (z1 : Int32) (z2 : gMem), wl_MO_lay_5 post n z0 z1 z2 → wl_MO_lay_5 post' n z0 z1 z2 := by
  intro n
  induction n with
  | zero => intro z0 z1 z2 h; exact h
  | succ n ih =>
    intro z0 z1 z2
    unfold wl_MO_lay_5
    repeat' with_reducible first | exact h_post _ _ | exact ih _ _ _ | refine mn_wl_MO_lay_90 (fun _ _ => ?_) _ _ _ _ | refine mn_wp_MO_roundUp (fun _ _ => ?_) | refine q_mb ?_ ?_ | refine q_ma (fun _ => ?_) | refine q_me (fun _ => ?_) | refine q_mi ?_ | exact id
theorem mn_wp_MO_lay {post post' : Int32 → gMem → Prop} {M : gMem} (h_post : ∀ y0 y1, post y0 y1 → post' y0 y1) : wp_MO_lay post M → wp_MO_lay post' M := by
  unfold wp_MO_lay
  repeat' with_reducible first | exact h_post _ _ | refine mn_wl_MO_lay_5 (fun _ _ => ?_) _ _ _ _ | refine q_mb ?_ ?_ | refine q_ma (fun _ => ?_) | refine q_me (fun _ => ?_) | refine q_mi ?_ | exact id
theorem mn_wp_MO_write1 {post post' : gMem → Prop} {a0 : Int32} {a1 : Int32} {M : gMem} (h_post : ∀ y0, post y0 → post' y0) : wp_MO_write1 post a0 a1 M → wp_MO_write1 post' a0 a1 M := by
  unfold wp_MO_write1
  repeat' with_reducible first | exact h_post _ | refine q_mb ?_ ?_ | refine q_ma (fun _ => ?_) | refine q_me (fun _ => ?_) | refine q_mi ?_ | exact id
theorem mn_wp_MO_write2 {post post' : gMem → Prop} {a0 : Int32} {a1 : Int32} {M : gMem} (h_post : ∀ y0, post y0 → post' y0) : wp_MO_write2 post a0 a1 M → wp_MO_write2 post' a0 a1 M := by
  unfold wp_MO_write2
  repeat' with_reducible first | exact h_post _ | refine mn_wp_MO_write1 (fun _ => ?_) | refine q_mb ?_ ?_ | refine q_ma (fun _ => ?_) | refine q_me (fun _ => ?_) | refine q_mi ?_ | exact id
theorem mn_wp_MO_write4 {post post' : gMem → Prop} {a0 : Int32} {a1 : Int32} {M : gMem} (h_post : ∀ y0, post y0 → post' y0) : wp_MO_write4 post a0 a1 M → wp_MO_write4 post' a0 a1 M := by
  unfold wp_MO_write4
  repeat' with_reducible first | exact h_post _ | refine mn_wp_MO_write2 (fun _ => ?_) | refine q_mb ?_ ?_ | refine q_ma (fun _ => ?_) | refine q_me (fun _ => ?_) | refine q_mi ?_ | exact id
theorem mn_wp_MO_isShort {post post' : Bool → gMem → Prop} {a0 : Int32} {M : gMem} (h_post : ∀ y0 y1, post y0 y1 → post' y0 y1) : wp_MO_isShort post a0 M → wp_MO_isShort post' a0 M := by
  unfold wp_MO_isShort
  repeat' with_reducible first | exact h_post _ _ | refine q_mb ?_ ?_ | refine q_ma (fun _ => ?_) | refine q_me (fun _ => ?_) | refine q_mi ?_ | exact id
theorem mn_wj_MO_writeHead_101 {post post' : gMem → Prop} {s0 : Int32} {s1 : Int32} {M : gMem} (h_post : ∀ y0, post y0 → post' y0) : wj_MO_writeHead_101 post s0 s1 M → wj_MO_writeHead_101 post' s0 s1 M := by
  unfold wj_MO_writeHead_101
  repeat' with_reducible first | exact h_post _ | refine mn_wp_MO_write4 (fun _ => ?_) | refine mn_wp_MO_write2 (fun _ => ?_) | refine q_mb ?_ ?_ | refine q_ma (fun _ => ?_) | refine q_me (fun _ => ?_) | refine q_mi ?_ | exact id
theorem mn_wl_MO_writeHead_48 {post post' : gMem → Prop}  (h_post : ∀ y0, post y0 → post' y0) : ∀ (n : Nat) (z0 : Int32) (z1 : Int32) (z2 : gMem), wl_MO_writeHead_48 post n z0 z1 z2 → wl_MO_writeHead_48 post' n z0 z1 z2 := by
  intro n
  induction n with
  | zero => intro z0 z1 z2 h; exact h
  | succ n ih =>
    intro z0 z1 z2
    unfold wl_MO_writeHead_48
    repeat' with_reducible first | exact h_post _ | exact ih _ _ _ | refine mn_wj_MO_writeHead_101 (fun _ => ?_) | refine mn_wp_MO_isShort (fun _ _ => ?_) | refine q_mb ?_ ?_ | refine q_ma (fun _ => ?_) | refine q_me (fun _ => ?_) | refine q_mi ?_ | exact id
theorem mn_wp_MO_writeHead {post post' : gMem → Prop} {a0 : Int32} {M : gMem} (h_post : ∀ y0, post y0 → post' y0) : wp_MO_writeHead post a0 M → wp_MO_writeHead post' a0 M := by
  unfold wp_MO_writeHead
  repeat' with_reducible first | exact h_post _ | refine mn_wp_MO_write4 (fun _ => ?_) | refine mn_wp_MO_write2 (fun _ => ?_) | refine mn_wl_MO_writeHead_48 (fun _ => ?_) _ _ _ _ | refine q_mb ?_ ?_ | refine q_ma (fun _ => ?_) | refine q_me (fun _ => ?_) | refine q_mi ?_ | exact id
theorem mn_wl_MO_writeSymbols_2 {post post' : gMem → Prop}  (h_post : ∀ y0, post y0 → post' y0) : ∀ (n : Nat) (z0 : Int32) (z1 : gMem), wl_MO_writeSymbols_2 post n z0 z1 → wl_MO_writeSymbols_2 post' n z0 z1 := by
  intro n
  induction n with
  | zero => intro z0 z1 h; exact h
  | succ n ih =>
    intro z0 z1
    unfold wl_MO_writeSymbols_2
    repeat' with_reducible first | exact h_post _ | exact ih _ _ | refine mn_wp_MO_write4 (fun _ => ?_) | refine mn_wp_MO_write1 (fun _ => ?_) | refine mn_wp_MO_write2 (fun _ => ?_) | refine q_mb ?_ ?_ | refine q_ma (fun _ => ?_) | refine q_me (fun _ => ?_) | refine q_mi ?_ | exact id
theorem mn_wp_MO_writeSymbols {post post' : gMem → Prop} {M : gMem} (h_post : ∀ y0, post y0 → post' y0) : wp_MO_writeSymbols post M → wp_MO_writeSymbols post' M := by
  unfold wp_MO_writeSymbols
  repeat' with_reducible first | exact h_post _ | refine mn_wl_MO_writeSymbols_2 (fun _ => ?_) _ _ _ | refine q_mb ?_ ?_ | refine q_ma (fun _ => ?_) | refine q_me (fun _ => ?_) | refine q_mi ?_ | exact id
theorem mn_wj_MO_sortOf_25 {post post' : Int32 → gMem → Prop} {v0 : Int32} {M : gMem} (h_post : ∀ y0 y1, post y0 y1 → post' y0 y1) : wj_MO_sortOf_25 post v0 M → wj_MO_sortOf_25 post' v0 M := by
  unfold wj_MO_sortOf_25
  repeat' with_reducible first | exact h_post _ _ | refine q_mb ?_ ?_ | refine q_ma (fun _ => ?_) | refine q_me (fun _ => ?_) | refine q_mi ?_ | exact id
theorem mn_wp_MO_sortOf {post post' : Int32 → gMem → Prop} {a0 : Int32} {M : gMem} (h_post : ∀ y0 y1, post y0 y1 → post' y0 y1) : wp_MO_sortOf post a0 M → wp_MO_sortOf post' a0 M := by
  unfold wp_MO_sortOf
  repeat' with_reducible first | exact h_post _ _ | refine mn_wj_MO_sortOf_25 (fun _ _ => ?_) | refine q_mb ?_ ?_ | refine q_ma (fun _ => ?_) | refine q_me (fun _ => ?_) | refine q_mi ?_ | exact id
theorem mn_wp_MO_flagsOf {post post' : Int32 → gMem → Prop} {a0 : Int32} {M : gMem} (h_post : ∀ y0 y1, post y0 y1 → post' y0 y1) : wp_MO_flagsOf post a0 M → wp_MO_flagsOf post' a0 M := by
  unfold wp_MO_flagsOf
  repeat' with_reducible first | exact h_post _ _ | refine q_mb ?_ ?_ | refine q_ma (fun _ => ?_) | refine q_me (fun _ => ?_) | refine q_mi ?_ | exact id
theorem mn_wj_MO_eachOf_25 {post post' : Int32 → gMem → Prop} {v0 : Int32} {M : gMem} (h_post : ∀ y0 y1, post y0 y1 → post' y0 y1) : wj_MO_eachOf_25 post v0 M → wj_MO_eachOf_25 post' v0 M := by
  unfold wj_MO_eachOf_25
  repeat' with_reducible first | exact h_post _ _ | refine q_mb ?_ ?_ | refine q_ma (fun _ => ?_) | refine q_me (fun _ => ?_) | refine q_mi ?_ | exact id
theorem mn_wp_MO_eachOf {post post' : Int32 → gMem → Prop} {a0 : Int32} {M : gMem} (h_post : ∀ y0 y1, post y0 y1 → post' y0 y1) : wp_MO_eachOf post a0 M → wp_MO_eachOf post' a0 M := by
  unfold wp_MO_eachOf
  repeat' with_reducible first | exact h_post _ _ | refine mn_wj_MO_eachOf_25 (fun _ _ => ?_) | refine q_mb ?_ ?_ | refine q_ma (fun _ => ?_) | refine q_me (fun _ => ?_) | refine q_mi ?_ | exact id
theorem mn_wj_MO_writeEntry_196 {post post' : gMem → Prop} {v1 : Int32} {v2 : Int32} {s0 : Int32} {s1 : Int32} {M : gMem} (h_post : ∀ y0, post y0 → post' y0) : wj_MO_writeEntry_196 post v1 v2 s0 s1 M → wj_MO_writeEntry_196 post' v1 v2 s0 s1 M := by
  unfold wj_MO_writeEntry_196
  repeat' with_reducible first | exact h_post _ | refine mn_wp_MO_write4 (fun _ => ?_) | refine mn_wp_MO_eachOf (fun _ _ => ?_) | refine q_mb ?_ ?_ | refine q_ma (fun _ => ?_) | refine q_me (fun _ => ?_) | refine q_mi ?_ | exact id
theorem mn_wj_MO_writeEntry_154 {post post' : gMem → Prop} {v1 : Int32} {v2 : Int32} {s0 : Int32} {s1 : Int32} {M : gMem} (h_post : ∀ y0, post y0 → post' y0) : wj_MO_writeEntry_154 post v1 v2 s0 s1 M → wj_MO_writeEntry_154 post' v1 v2 s0 s1 M := by
  unfold wj_MO_writeEntry_154
  repeat' with_reducible first | exact h_post _ | refine mn_wp_MO_write4 (fun _ => ?_) | refine mn_wj_MO_writeEntry_196 (fun _ => ?_) | refine q_mb ?_ ?_ | refine q_ma (fun _ => ?_) | refine q_me (fun _ => ?_) | refine q_mi ?_ | exact id
theorem mn_wj_MO_writeEntry_117 {post post' : gMem → Prop} {v1 : Int32} {v2 : Int32} {v3 : Int32} {v4 : Int32} {s0 : Int32} {s1 : Int32} {M : gMem} (h_post : ∀ y0, post y0 → post' y0) : wj_MO_writeEntry_117 post v1 v2 v3 v4 s0 s1 M → wj_MO_writeEntry_117 post' v1 v2 v3 v4 s0 s1 M := by
  unfold wj_MO_writeEntry_117
  repeat' with_reducible first | exact h_post _ | refine mn_wp_MO_write4 (fun _ => ?_) | refine mn_wj_MO_writeEntry_154 (fun _ => ?_) | refine q_mb ?_ ?_ | refine q_ma (fun _ => ?_) | refine q_me (fun _ => ?_) | refine q_mi ?_ | exact id
theorem mn_wj_MO_writeEntry_16 {post post' : gMem → Prop} {v1 : Int32} {v2 : Int32} {v3 : Int32} {s0 : Int32} {M : gMem} (h_post : ∀ y0, post y0 → post' y0) : wj_MO_writeEntry_16 post v1 v2 v3 s0 M → wj_MO_writeEntry_16 post' v1 v2 v3 s0 M := by
  unfold wj_MO_writeEntry_16
  repeat' with_reducible first | exact h_post _ | refine mn_wp_MO_write4 (fun _ => ?_) | refine mn_wp_MO_sortOf (fun _ _ => ?_) | refine mn_wp_MO_flagsOf (fun _ _ => ?_) | refine mn_wj_MO_writeEntry_117 (fun _ => ?_) | refine q_mb ?_ ?_ | refine q_ma (fun _ => ?_) | refine q_me (fun _ => ?_) | refine q_mi ?_ | exact id
theorem mn_wj_MO_writeEntry_15 {post post' : gMem → Prop} {v1 : Int32} {v2 : Int32} {v3 : Int32} {M : gMem} (h_post : ∀ y0, post y0 → post' y0) : wj_MO_writeEntry_15 post v1 v2 v3 M → wj_MO_writeEntry_15 post' v1 v2 v3 M := by
  unfold wj_MO_writeEntry_15
  repeat' with_reducible first | exact h_post _ | refine mn_wj_MO_writeEntry_16 (fun _ => ?_) | refine q_mb ?_ ?_ | refine q_ma (fun _ => ?_) | refine q_me (fun _ => ?_) | refine q_mi ?_ | exact id
theorem mn_wp_MO_writeEntry {post post' : gMem → Prop} {a0 : Int32} {a1 : Int32} {a2 : Int32} {M : gMem} (h_post : ∀ y0, post y0 → post' y0) : wp_MO_writeEntry post a0 a1 a2 M → wp_MO_writeEntry post' a0 a1 a2 M := by
  unfold wp_MO_writeEntry
  repeat' with_reducible first | exact h_post _ | refine mn_wj_MO_writeEntry_15 (fun _ => ?_) | refine mn_wj_MO_writeEntry_16 (fun _ => ?_) | refine q_mb ?_ ?_ | refine q_ma (fun _ => ?_) | refine q_me (fun _ => ?_) | refine q_mi ?_ | exact id
theorem mn_wj_MO_writeRelocations_79 {post post' : gMem → Prop} {k11 k11' : Int32 → Int32 → Int32 → gMem → Prop} {v1 : Int32} {v2 : Int32} {v3 : Int32} {s0 : Int32} {s1 : Int32} {s2 : Int32} {M : gMem} (h_post : ∀ y0, post y0 → post' y0) (h_k11 : ∀ y0 y1 y2 y3, k11 y0 y1 y2 y3 → k11' y0 y1 y2 y3) : wj_MO_writeRelocations_79 post k11 v1 v2 v3 s0 s1 s2 M → wj_MO_writeRelocations_79 post' k11' v1 v2 v3 s0 s1 s2 M := by
  unfold wj_MO_writeRelocations_79
  repeat' with_reducible first | exact h_post _ | exact h_k11 _ _ _ _ | refine mn_wp_MO_write4 (fun _ => ?_) | refine q_mb ?_ ?_ | refine q_ma (fun _ => ?_) | refine q_me (fun _ => ?_) | refine q_mi ?_ | exact id
theorem mn_wl_MO_writeRelocations_11 {post post' : gMem → Prop}  (h_post : ∀ y0, post y0 → post' y0) : ∀ (n : Nat) (z0 : Int32) (z1 : Int32) (z2 : Int32) (z3 : gMem), wl_MO_writeRelocations_11 post n z0 z1 z2 z3 → wl_MO_writeRelocations_11 post' n z0 z1 z2 z3 := by
  intro n
  induction n with
  | zero => intro z0 z1 z2 z3 h; exact h
  | succ n ih =>
    intro z0 z1 z2 z3
    unfold wl_MO_writeRelocations_11
    repeat' with_reducible first | exact h_post _ | exact ih _ _ _ _ | refine mn_wp_MO_write4 (fun _ => ?_) | refine mn_wj_MO_writeRelocations_79 (fun _ => ?_) (fun _ _ _ _ => ?_) | refine q_mb ?_ ?_ | refine q_ma (fun _ => ?_) | refine q_me (fun _ => ?_) | refine q_mi ?_ | exact id
theorem mn_wp_MO_writeRelocations {post post' : gMem → Prop} {a0 : Int32} {M : gMem} (h_post : ∀ y0, post y0 → post' y0) : wp_MO_writeRelocations post a0 M → wp_MO_writeRelocations post' a0 M := by
  unfold wp_MO_writeRelocations
  repeat' with_reducible first | exact h_post _ | refine mn_wl_MO_writeRelocations_11 (fun _ => ?_) _ _ _ _ _ | refine q_mb ?_ ?_ | refine q_ma (fun _ => ?_) | refine q_me (fun _ => ?_) | refine q_mi ?_ | exact id
theorem mn_wl_MO_write_306 {post post' : Int32 → gMem → Prop}  (h_post : ∀ y0 y1, post y0 y1 → post' y0 y1) : ∀ (n : Nat) (z0 : Int32) (z1 : Int32) (z2 : Int32) (z3 : gMem), wl_MO_write_306 post n z0 z1 z2 z3 → wl_MO_write_306 post' n z0 z1 z2 z3 := by
  intro n
  induction n with
  | zero => intro z0 z1 z2 z3 h; exact h
  | succ n ih =>
    intro z0 z1 z2 z3
    unfold wl_MO_write_306
    repeat' with_reducible first | exact h_post _ _ | exact ih _ _ _ _ | refine mn_wp_MO_writeEntry (fun _ => ?_) | refine q_mb ?_ ?_ | refine q_ma (fun _ => ?_) | refine q_me (fun _ => ?_) | refine q_mi ?_ | exact id
theorem mn_wl_MO_write_268 {post post' : Int32 → gMem → Prop}  (h_post : ∀ y0 y1, post y0 y1 → post' y0 y1) : ∀ (n : Nat) (z0 : Int32) (z1 : Int32) (z2 : Int32) (z3 : Int32) (z4 : gMem), wl_MO_write_268 post n z0 z1 z2 z3 z4 → wl_MO_write_268 post' n z0 z1 z2 z3 z4 := by
  intro n
  induction n with
  | zero => intro z0 z1 z2 z3 z4 h; exact h
  | succ n ih =>
    intro z0 z1 z2 z3 z4
    unfold wl_MO_write_268
    repeat' with_reducible first | exact h_post _ _ | exact ih _ _ _ _ _ | refine mn_wl_MO_write_306 (fun _ _ => ?_) _ _ _ _ _ | refine q_mb ?_ ?_ | refine q_ma (fun _ => ?_) | refine q_me (fun _ => ?_) | refine q_mi ?_ | exact id
theorem mn_wl_MO_write_224 {post post' : Int32 → gMem → Prop}  (h_post : ∀ y0 y1, post y0 y1 → post' y0 y1) : ∀ (n : Nat) (z0 : Int32) (z1 : Int32) (z2 : Int32) (z3 : Int32) (z4 : gMem), wl_MO_write_224 post n z0 z1 z2 z3 z4 → wl_MO_write_224 post' n z0 z1 z2 z3 z4 := by
  intro n
  induction n with
  | zero => intro z0 z1 z2 z3 z4 h; exact h
  | succ n ih =>
    intro z0 z1 z2 z3 z4
    unfold wl_MO_write_224
    repeat' with_reducible first | exact h_post _ _ | exact ih _ _ _ _ _ | refine mn_wp_MO_sizeOfSymbolNames (fun _ _ => ?_) | refine mn_wl_MO_write_268 (fun _ _ => ?_) _ _ _ _ _ _ | refine q_mb ?_ ?_ | refine q_ma (fun _ => ?_) | refine q_me (fun _ => ?_) | refine q_mi ?_ | exact id
theorem mn_wl_MO_write_193 {post post' : Int32 → gMem → Prop}  (h_post : ∀ y0 y1, post y0 y1 → post' y0 y1) : ∀ (n : Nat) (z0 : Int32) (z1 : Int32) (z2 : Int32) (z3 : gMem), wl_MO_write_193 post n z0 z1 z2 z3 → wl_MO_write_193 post' n z0 z1 z2 z3 := by
  intro n
  induction n with
  | zero => intro z0 z1 z2 z3 h; exact h
  | succ n ih =>
    intro z0 z1 z2 z3
    unfold wl_MO_write_193
    repeat' with_reducible first | exact h_post _ _ | exact ih _ _ _ _ | refine mn_wp_MO_writeSymbols (fun _ => ?_) | refine mn_wp_MO_sizeOfTitles (fun _ _ => ?_) | refine mn_wl_MO_write_224 (fun _ _ => ?_) _ _ _ _ _ _ | refine mn_wp_MO_writeRelocations (fun _ => ?_) | refine q_mb ?_ ?_ | refine q_ma (fun _ => ?_) | refine q_me (fun _ => ?_) | refine q_mi ?_ | exact id
theorem mn_wl_MO_write_151 {post post' : Int32 → gMem → Prop}  (h_post : ∀ y0 y1, post y0 y1 → post' y0 y1) : ∀ (n : Nat) (z0 : Int32) (z1 : Int32) (z2 : Int32) (z3 : gMem), wl_MO_write_151 post n z0 z1 z2 z3 → wl_MO_write_151 post' n z0 z1 z2 z3 := by
  intro n
  induction n with
  | zero => intro z0 z1 z2 z3 h; exact h
  | succ n ih =>
    intro z0 z1 z2 z3
    unfold wl_MO_write_151
    repeat' with_reducible first | exact h_post _ _ | exact ih _ _ _ _ | refine mn_wl_MO_write_193 (fun _ _ => ?_) _ _ _ _ _ | refine mn_wp_MO_write2 (fun _ => ?_) | refine q_mb ?_ ?_ | refine q_ma (fun _ => ?_) | refine q_me (fun _ => ?_) | refine q_mi ?_ | exact id
theorem mn_wl_MO_write_95 {post post' : Int32 → gMem → Prop} {k86 k86' : Int32 → Int32 → Int32 → gMem → Prop}  (h_post : ∀ y0 y1, post y0 y1 → post' y0 y1) (h_k86 : ∀ y0 y1 y2 y3, k86 y0 y1 y2 y3 → k86' y0 y1 y2 y3) : ∀ (n : Nat) (z0 : Int32) (z1 : Int32) (z2 : Int32) (z3 : Int32) (z4 : gMem), wl_MO_write_95 post k86 n z0 z1 z2 z3 z4 → wl_MO_write_95 post' k86' n z0 z1 z2 z3 z4 := by
  intro n
  induction n with
  | zero => intro z0 z1 z2 z3 z4 h; exact h
  | succ n ih =>
    intro z0 z1 z2 z3 z4
    unfold wl_MO_write_95
    repeat' with_reducible first | exact h_post _ _ | exact h_k86 _ _ _ _ | exact ih _ _ _ _ _ | refine q_mb ?_ ?_ | refine q_ma (fun _ => ?_) | refine q_me (fun _ => ?_) | refine q_mi ?_ | exact id
theorem mn_wl_MO_write_86 {post post' : Int32 → gMem → Prop}  (h_post : ∀ y0 y1, post y0 y1 → post' y0 y1) : ∀ (n : Nat) (z0 : Int32) (z1 : Int32) (z2 : Int32) (z3 : gMem), wl_MO_write_86 post n z0 z1 z2 z3 → wl_MO_write_86 post' n z0 z1 z2 z3 := by
  intro n
  induction n with
  | zero => intro z0 z1 z2 z3 h; exact h
  | succ n ih =>
    intro z0 z1 z2 z3
    unfold wl_MO_write_86
    repeat' with_reducible first | exact h_post _ _ | exact ih _ _ _ _ | refine mn_wl_MO_write_151 (fun _ _ => ?_) _ _ _ _ _ | refine mn_wl_MO_write_95 (fun _ _ => ?_) (fun _ _ _ _ => ?_) _ _ _ _ _ _ | refine q_mb ?_ ?_ | refine q_ma (fun _ => ?_) | refine q_me (fun _ => ?_) | refine q_mi ?_ | exact id
theorem mn_wl_MO_write_55 {post post' : Int32 → gMem → Prop}  (h_post : ∀ y0 y1, post y0 y1 → post' y0 y1) : ∀ (n : Nat) (z0 : Int32) (z1 : Int32) (z2 : Int32) (z3 : gMem), wl_MO_write_55 post n z0 z1 z2 z3 → wl_MO_write_55 post' n z0 z1 z2 z3 := by
  intro n
  induction n with
  | zero => intro z0 z1 z2 z3 h; exact h
  | succ n ih =>
    intro z0 z1 z2 z3
    unfold wl_MO_write_55
    repeat' with_reducible first | exact h_post _ _ | exact ih _ _ _ _ | refine mn_wp_MO_writeHead (fun _ => ?_) | refine mn_wl_MO_write_86 (fun _ _ => ?_) _ _ _ _ _ | refine q_mb ?_ ?_ | refine q_ma (fun _ => ?_) | refine q_me (fun _ => ?_) | refine q_mi ?_ | exact id
theorem mn_wp_MO_write {post post' : Int32 → gMem → Prop} {M : gMem} (h_post : ∀ y0 y1, post y0 y1 → post' y0 y1) : wp_MO_write post M → wp_MO_write post' M := by
  unfold wp_MO_write
  repeat' with_reducible first | exact h_post _ _ | refine mn_wp_MO_unfit (fun _ _ => ?_) | refine mn_wp_MO_lay (fun _ _ => ?_) | refine mn_wp_MO_order (fun _ _ => ?_) | refine mn_wl_MO_write_55 (fun _ _ => ?_) _ _ _ _ _ | refine q_mb ?_ ?_ | refine q_ma (fun _ => ?_) | refine q_me (fun _ => ?_) | refine q_mi ?_ | exact id
theorem mn_wp_MO_size {post post' : Int32 → gMem → Prop} {M : gMem} (h_post : ∀ y0 y1, post y0 y1 → post' y0 y1) : wp_MO_size post M → wp_MO_size post' M := by
  unfold wp_MO_size
  repeat' with_reducible first | exact h_post _ _ | refine q_mb ?_ ?_ | refine q_ma (fun _ => ?_) | refine q_me (fun _ => ?_) | refine q_mi ?_ | exact id
theorem mn_wp_MO_byteAt {post post' : Int32 → gMem → Prop} {a0 : Int32} {M : gMem} (h_post : ∀ y0 y1, post y0 y1 → post' y0 y1) : wp_MO_byteAt post a0 M → wp_MO_byteAt post' a0 M := by
  unfold wp_MO_byteAt
  repeat' with_reducible first | exact h_post _ _ | refine q_mb ?_ ?_ | refine q_ma (fun _ => ?_) | refine q_me (fun _ => ?_) | refine q_mi ?_ | exact id
theorem mn_wl_MO_feed_28 {post post' : Bool → gMem → Prop}  (h_post : ∀ y0 y1, post y0 y1 → post' y0 y1) : ∀ (n : Nat) (z0 : Int32) (z1 : Int64) (z2 : Int32) (z3 : gMem), wl_MO_feed_28 post n z0 z1 z2 z3 → wl_MO_feed_28 post' n z0 z1 z2 z3 := by
  intro n
  induction n with
  | zero => intro z0 z1 z2 z3 h; exact h
  | succ n ih =>
    intro z0 z1 z2 z3
    unfold wl_MO_feed_28
    repeat' with_reducible first | exact h_post _ _ | exact ih _ _ _ _ | refine mn_wp_MO_byteOf (fun _ _ => ?_) | refine q_mb ?_ ?_ | refine q_ma (fun _ => ?_) | refine q_me (fun _ => ?_) | refine q_mi ?_ | exact id
theorem mn_wp_MO_feed {post post' : Bool → gMem → Prop} {a0 : Int32} {a1 : Int64} {M : gMem} (h_post : ∀ y0 y1, post y0 y1 → post' y0 y1) : wp_MO_feed post a0 a1 M → wp_MO_feed post' a0 a1 M := by
  unfold wp_MO_feed
  repeat' with_reducible first | exact h_post _ _ | refine mn_wl_MO_feed_28 (fun _ _ => ?_) _ _ _ _ _ | refine q_mb ?_ ?_ | refine q_ma (fun _ => ?_) | refine q_me (fun _ => ?_) | refine q_mi ?_ | exact id
theorem mn_wp_MO_cut {post post' : Bool → gMem → Prop} {a0 : Int32} {M : gMem} (h_post : ∀ y0 y1, post y0 y1 → post' y0 y1) : wp_MO_cut post a0 M → wp_MO_cut post' a0 M := by
  unfold wp_MO_cut
  repeat' with_reducible first | exact h_post _ _ | refine q_mb ?_ ?_ | refine q_ma (fun _ => ?_) | refine q_me (fun _ => ?_) | refine q_mi ?_ | exact id
theorem mn_wp_MO_spoil {post post' : Int32 → gMem → Prop} {a0 : Int32} {a1 : Int32} {M : gMem} (h_post : ∀ y0 y1, post y0 y1 → post' y0 y1) : wp_MO_spoil post a0 a1 M → wp_MO_spoil post' a0 a1 M := by
  unfold wp_MO_spoil
  repeat' with_reducible first | exact h_post _ _ | refine q_mb ?_ ?_ | refine q_ma (fun _ => ?_) | refine q_me (fun _ => ?_) | refine q_mi ?_ | exact id
theorem mn_wp_MO_read2 {post post' : Int32 → gMem → Prop} {a0 : Int32} {M : gMem} (h_post : ∀ y0 y1, post y0 y1 → post' y0 y1) : wp_MO_read2 post a0 M → wp_MO_read2 post' a0 M := by
  unfold wp_MO_read2
  repeat' with_reducible first | exact h_post _ _ | refine q_mb ?_ ?_ | refine q_ma (fun _ => ?_) | refine q_me (fun _ => ?_) | refine q_mi ?_ | exact id
theorem mn_wp_MO_read4 {post post' : Int64 → gMem → Prop} {a0 : Int32} {M : gMem} (h_post : ∀ y0 y1, post y0 y1 → post' y0 y1) : wp_MO_read4 post a0 M → wp_MO_read4 post' a0 M := by
  unfold wp_MO_read4
  repeat' with_reducible first | exact h_post _ _ | refine mn_wp_MO_read2 (fun _ _ => ?_) | refine q_mb ?_ ?_ | refine q_ma (fun _ => ?_) | refine q_me (fun _ => ?_) | refine q_mi ?_ | exact id
theorem mn_wp_MO_fault {post post' : Int32 → gMem → Prop} {a0 : Int32} {a1 : Int32} {M : gMem} (h_post : ∀ y0 y1, post y0 y1 → post' y0 y1) : wp_MO_fault post a0 a1 M → wp_MO_fault post' a0 a1 M := by
  unfold wp_MO_fault
  repeat' with_reducible first | exact h_post _ _ | refine q_mb ?_ ?_ | refine q_ma (fun _ => ?_) | refine q_me (fun _ => ?_) | refine q_mi ?_ | exact id
theorem mn_wl_MO_head_127 {post post' : Int32 → gMem → Prop}  (h_post : ∀ y0 y1, post y0 y1 → post' y0 y1) : ∀ (n : Nat) (z0 : Int32) (z1 : gMem), wl_MO_head_127 post n z0 z1 → wl_MO_head_127 post' n z0 z1 := by
  intro n
  induction n with
  | zero => intro z0 z1 h; exact h
  | succ n ih =>
    intro z0 z1
    unfold wl_MO_head_127
    repeat' with_reducible first | exact h_post _ _ | exact ih _ _ | refine mn_wp_MO_read2 (fun _ _ => ?_) | refine mn_wp_MO_read4 (fun _ _ => ?_) | refine mn_wp_MO_fault (fun _ _ => ?_) | refine q_mb ?_ ?_ | refine q_ma (fun _ => ?_) | refine q_me (fun _ => ?_) | refine q_mi ?_ | exact id
theorem mn_wl_MO_head_93 {post post' : Int32 → gMem → Prop}  (h_post : ∀ y0 y1, post y0 y1 → post' y0 y1) : ∀ (n : Nat) (z0 : Int32) (z1 : gMem), wl_MO_head_93 post n z0 z1 → wl_MO_head_93 post' n z0 z1 := by
  intro n
  induction n with
  | zero => intro z0 z1 h; exact h
  | succ n ih =>
    intro z0 z1
    unfold wl_MO_head_93
    repeat' with_reducible first | exact h_post _ _ | exact ih _ _ | refine mn_wl_MO_head_127 (fun _ _ => ?_) _ _ _ | refine mn_wp_MO_fault (fun _ _ => ?_) | refine q_mb ?_ ?_ | refine q_ma (fun _ => ?_) | refine q_me (fun _ => ?_) | refine q_mi ?_ | exact id
theorem mn_wp_MO_head {post post' : Int32 → gMem → Prop} {M : gMem} (h_post : ∀ y0 y1, post y0 y1 → post' y0 y1) : wp_MO_head post M → wp_MO_head post' M := by
  unfold wp_MO_head
  repeat' with_reducible first | exact h_post _ _ | refine mn_wl_MO_head_93 (fun _ _ => ?_) _ _ _ | refine mn_wp_MO_fault (fun _ _ => ?_) | refine q_mb ?_ ?_ | refine q_ma (fun _ => ?_) | refine q_me (fun _ => ?_) | refine q_mi ?_ | exact id
theorem mn_wp_MO_spotOf {post post' : Int32 → gMem → Prop} {a0 : Int32} {a1 : Int32} {M : gMem} (h_post : ∀ y0 y1, post y0 y1 → post' y0 y1) : wp_MO_spotOf post a0 a1 M → wp_MO_spotOf post' a0 a1 M := by
  unfold wp_MO_spotOf
  repeat' with_reducible first | exact h_post _ _ | refine q_mb ?_ ?_ | refine q_ma (fun _ => ?_) | refine q_me (fun _ => ?_) | refine q_mi ?_ | exact id
theorem mn_wp_MO_told {post post' : Int64 → gMem → Prop} {a0 : Int32} {a1 : Int32} {M : gMem} (h_post : ∀ y0 y1, post y0 y1 → post' y0 y1) : wp_MO_told post a0 a1 M → wp_MO_told post' a0 a1 M := by
  unfold wp_MO_told
  repeat' with_reducible first | exact h_post _ _ | refine mn_wp_MO_spotOf (fun _ _ => ?_) | refine mn_wp_MO_read4 (fun _ _ => ?_) | refine q_mb ?_ ?_ | refine q_ma (fun _ => ?_) | refine q_me (fun _ => ?_) | refine q_mi ?_ | exact id
theorem mn_wj_MO_isTitle_48 {post post' : Bool → gMem → Prop} {v1 : Int32} {v2 : Int32} {v3 : Int32} {M : gMem} (h_post : ∀ y0 y1, post y0 y1 → post' y0 y1) : wj_MO_isTitle_48 post v1 v2 v3 M → wj_MO_isTitle_48 post' v1 v2 v3 M := by
  unfold wj_MO_isTitle_48
  repeat' with_reducible first | exact h_post _ _ | refine q_mb ?_ ?_ | refine q_ma (fun _ => ?_) | refine q_me (fun _ => ?_) | refine q_mi ?_ | exact id
theorem mn_wl_MO_isTitle_2 {post post' : Bool → gMem → Prop}  (h_post : ∀ y0 y1, post y0 y1 → post' y0 y1) : ∀ (n : Nat) (z0 : Int32) (z1 : Int32) (z2 : Int32) (z3 : gMem), wl_MO_isTitle_2 post n z0 z1 z2 z3 → wl_MO_isTitle_2 post' n z0 z1 z2 z3 := by
  intro n
  induction n with
  | zero => intro z0 z1 z2 z3 h; exact h
  | succ n ih =>
    intro z0 z1 z2 z3
    unfold wl_MO_isTitle_2
    repeat' with_reducible first | exact h_post _ _ | exact ih _ _ _ _ | refine mn_wj_MO_isTitle_48 (fun _ _ => ?_) | refine q_mb ?_ ?_ | refine q_ma (fun _ => ?_) | refine q_me (fun _ => ?_) | refine q_mi ?_ | exact id
theorem mn_wp_MO_isTitle {post post' : Bool → gMem → Prop} {a0 : Int32} {a1 : Int32} {M : gMem} (h_post : ∀ y0 y1, post y0 y1 → post' y0 y1) : wp_MO_isTitle post a0 a1 M → wp_MO_isTitle post' a0 a1 M := by
  unfold wp_MO_isTitle
  repeat' with_reducible first | exact h_post _ _ | refine mn_wl_MO_isTitle_2 (fun _ _ => ?_) _ _ _ _ _ | refine q_mb ?_ ?_ | refine q_ma (fun _ => ?_) | refine q_me (fun _ => ?_) | refine q_mi ?_ | exact id
theorem mn_wj_MO_nameFaults_249 {post post' : Int32 → gMem → Prop} {v4 : Int32} {M : gMem} (h_post : ∀ y0 y1, post y0 y1 → post' y0 y1) : wj_MO_nameFaults_249 post v4 M → wj_MO_nameFaults_249 post' v4 M := by
  unfold wj_MO_nameFaults_249
  repeat' with_reducible first | exact h_post _ _ | refine mn_wp_MO_spotOf (fun _ _ => ?_) | refine mn_wp_MO_fault (fun _ _ => ?_) | refine q_mb ?_ ?_ | refine q_ma (fun _ => ?_) | refine q_me (fun _ => ?_) | refine q_mi ?_ | exact id
theorem mn_wl_MO_nameFaults_182 {post post' : Int32 → gMem → Prop} {k135 k135' : Int32 → Int32 → Int32 → gMem → Prop}  (h_post : ∀ y0 y1, post y0 y1 → post' y0 y1) (h_k135 : ∀ y0 y1 y2 y3, k135 y0 y1 y2 y3 → k135' y0 y1 y2 y3) : ∀ (n : Nat) (z0 : Int32) (z1 : Int32) (z2 : Int32) (z3 : Int32) (z4 : gMem), wl_MO_nameFaults_182 post k135 n z0 z1 z2 z3 z4 → wl_MO_nameFaults_182 post' k135' n z0 z1 z2 z3 z4 := by
  intro n
  induction n with
  | zero => intro z0 z1 z2 z3 z4 h; exact h
  | succ n ih =>
    intro z0 z1 z2 z3 z4
    unfold wl_MO_nameFaults_182
    repeat' with_reducible first | exact h_post _ _ | exact h_k135 _ _ _ _ | exact ih _ _ _ _ _ | refine mn_wj_MO_nameFaults_249 (fun _ _ => ?_) | refine mn_wp_MO_told (fun _ _ => ?_) | refine mn_wp_MO_isTitle (fun _ _ => ?_) | refine q_mb ?_ ?_ | refine q_ma (fun _ => ?_) | refine q_me (fun _ => ?_) | refine q_mi ?_ | exact id
theorem mn_wl_MO_nameFaults_135 {post post' : Int32 → gMem → Prop}  (h_post : ∀ y0 y1, post y0 y1 → post' y0 y1) : ∀ (n : Nat) (z0 : Int32) (z1 : Int32) (z2 : Int32) (z3 : gMem), wl_MO_nameFaults_135 post n z0 z1 z2 z3 → wl_MO_nameFaults_135 post' n z0 z1 z2 z3 := by
  intro n
  induction n with
  | zero => intro z0 z1 z2 z3 h; exact h
  | succ n ih =>
    intro z0 z1 z2 z3
    unfold wl_MO_nameFaults_135
    repeat' with_reducible first | exact h_post _ _ | exact ih _ _ _ _ | refine mn_wp_MO_told (fun _ _ => ?_) | refine mn_wl_MO_nameFaults_182 (fun _ _ => ?_) (fun _ _ _ _ => ?_) _ _ _ _ _ _ | refine mn_wp_MO_spotOf (fun _ _ => ?_) | refine mn_wp_MO_fault (fun _ _ => ?_) | refine q_mb ?_ ?_ | refine q_ma (fun _ => ?_) | refine q_me (fun _ => ?_) | refine q_mi ?_ | exact id
theorem mn_wl_MO_nameFaults_111 {post post' : Int32 → gMem → Prop}  (h_post : ∀ y0 y1, post y0 y1 → post' y0 y1) : ∀ (n : Nat) (z0 : Int32) (z1 : Int32) (z2 : Int32) (z3 : gMem), wl_MO_nameFaults_111 post n z0 z1 z2 z3 → wl_MO_nameFaults_111 post' n z0 z1 z2 z3 := by
  intro n
  induction n with
  | zero => intro z0 z1 z2 z3 h; exact h
  | succ n ih =>
    intro z0 z1 z2 z3
    unfold wl_MO_nameFaults_111
    repeat' with_reducible first | exact h_post _ _ | exact ih _ _ _ _ | refine mn_wl_MO_nameFaults_135 (fun _ _ => ?_) _ _ _ _ _ | refine q_mb ?_ ?_ | refine q_ma (fun _ => ?_) | refine q_me (fun _ => ?_) | refine q_mi ?_ | exact id
theorem mn_wp_MO_nameFaults {post post' : Int32 → gMem → Prop} {M : gMem} (h_post : ∀ y0 y1, post y0 y1 → post' y0 y1) : wp_MO_nameFaults post M → wp_MO_nameFaults post' M := by
  unfold wp_MO_nameFaults
  repeat' with_reducible first | exact h_post _ _ | refine mn_wp_MO_read2 (fun _ _ => ?_) | refine mn_wp_MO_told (fun _ _ => ?_) | refine mn_wl_MO_nameFaults_111 (fun _ _ => ?_) _ _ _ _ _ | refine mn_wp_MO_fault (fun _ _ => ?_) | refine mn_wp_MO_spotOf (fun _ _ => ?_) | refine q_mb ?_ ?_ | refine q_ma (fun _ => ?_) | refine q_me (fun _ => ?_) | refine q_mi ?_ | exact id
theorem mn_wp_MO_bytesOf {post post' : Int64 → gMem → Prop} {a0 : Int32} {M : gMem} (h_post : ∀ y0 y1, post y0 y1 → post' y0 y1) : wp_MO_bytesOf post a0 M → wp_MO_bytesOf post' a0 M := by
  unfold wp_MO_bytesOf
  repeat' with_reducible first | exact h_post _ _ | refine mn_wp_MO_told (fun _ _ => ?_) | refine q_mb ?_ ?_ | refine q_ma (fun _ => ?_) | refine q_me (fun _ => ?_) | refine q_mi ?_ | exact id
theorem mn_wp_MO_from {post post' : Int32 → gMem → Prop} {a0 : Int32} {M : gMem} (h_post : ∀ y0 y1, post y0 y1 → post' y0 y1) : wp_MO_from post a0 M → wp_MO_from post' a0 M := by
  unfold wp_MO_from
  repeat' with_reducible first | exact h_post _ _ | refine mn_wp_MO_told (fun _ _ => ?_) | refine q_mb ?_ ?_ | refine q_ma (fun _ => ?_) | refine q_me (fun _ => ?_) | refine q_mi ?_ | exact id
theorem mn_wj_MO_sizeFaults_274 {post post' : Int32 → gMem → Prop} {k59 k59' : Int64 → Int32 → gMem → Prop} {v1 : Int64} {v3 : Int32} {s0 : Int32} {M : gMem} (h_post : ∀ y0 y1, post y0 y1 → post' y0 y1) (h_k59 : ∀ y0 y1 y2, k59 y0 y1 y2 → k59' y0 y1 y2) : wj_MO_sizeFaults_274 post k59 v1 v3 s0 M → wj_MO_sizeFaults_274 post' k59' v1 v3 s0 M := by
  unfold wj_MO_sizeFaults_274
  repeat' with_reducible first | exact h_post _ _ | exact h_k59 _ _ _ | refine mn_wp_MO_spotOf (fun _ _ => ?_) | refine mn_wp_MO_fault (fun _ _ => ?_) | refine q_mb ?_ ?_ | refine q_ma (fun _ => ?_) | refine q_me (fun _ => ?_) | refine q_mi ?_ | exact id
theorem mn_wj_MO_sizeFaults_269 {post post' : Int32 → gMem → Prop} {k59 k59' : Int64 → Int32 → gMem → Prop} {v1 : Int64} {v3 : Int32} {M : gMem} (h_post : ∀ y0 y1, post y0 y1 → post' y0 y1) (h_k59 : ∀ y0 y1 y2, k59 y0 y1 y2 → k59' y0 y1 y2) : wj_MO_sizeFaults_269 post k59 v1 v3 M → wj_MO_sizeFaults_269 post' k59' v1 v3 M := by
  unfold wj_MO_sizeFaults_269
  repeat' with_reducible first | exact h_post _ _ | exact h_k59 _ _ _ | refine mn_wj_MO_sizeFaults_274 (fun _ _ => ?_) (fun _ _ _ => ?_) | refine q_mb ?_ ?_ | refine q_ma (fun _ => ?_) | refine q_me (fun _ => ?_) | refine q_mi ?_ | exact id
theorem mn_wj_MO_sizeFaults_273 {post post' : Int32 → gMem → Prop} {k59 k59' : Int64 → Int32 → gMem → Prop} {v1 : Int64} {v3 : Int32} {M : gMem} (h_post : ∀ y0 y1, post y0 y1 → post' y0 y1) (h_k59 : ∀ y0 y1 y2, k59 y0 y1 y2 → k59' y0 y1 y2) : wj_MO_sizeFaults_273 post k59 v1 v3 M → wj_MO_sizeFaults_273 post' k59' v1 v3 M := by
  unfold wj_MO_sizeFaults_273
  repeat' with_reducible first | exact h_post _ _ | exact h_k59 _ _ _ | refine mn_wj_MO_sizeFaults_274 (fun _ _ => ?_) (fun _ _ _ => ?_) | refine q_mb ?_ ?_ | refine q_ma (fun _ => ?_) | refine q_me (fun _ => ?_) | refine q_mi ?_ | exact id
theorem mn_wj_MO_sizeFaults_229 {post post' : Int32 → gMem → Prop} {k59 k59' : Int64 → Int32 → gMem → Prop} {v1 : Int64} {v3 : Int32} {M : gMem} (h_post : ∀ y0 y1, post y0 y1 → post' y0 y1) (h_k59 : ∀ y0 y1 y2, k59 y0 y1 y2 → k59' y0 y1 y2) : wj_MO_sizeFaults_229 post k59 v1 v3 M → wj_MO_sizeFaults_229 post' k59' v1 v3 M := by
  unfold wj_MO_sizeFaults_229
  repeat' with_reducible first | exact h_post _ _ | exact h_k59 _ _ _ | refine mn_wj_MO_sizeFaults_274 (fun _ _ => ?_) (fun _ _ _ => ?_) | refine q_mb ?_ ?_ | refine q_ma (fun _ => ?_) | refine q_me (fun _ => ?_) | refine q_mi ?_ | exact id
theorem mn_wj_MO_sizeFaults_197 {post post' : Int32 → gMem → Prop} {k59 k59' : Int64 → Int32 → gMem → Prop} {v1 : Int64} {v3 : Int32} {M : gMem} (h_post : ∀ y0 y1, post y0 y1 → post' y0 y1) (h_k59 : ∀ y0 y1 y2, k59 y0 y1 y2 → k59' y0 y1 y2) : wj_MO_sizeFaults_197 post k59 v1 v3 M → wj_MO_sizeFaults_197 post' k59' v1 v3 M := by
  unfold wj_MO_sizeFaults_197
  repeat' with_reducible first | exact h_post _ _ | exact h_k59 _ _ _ | refine mn_wj_MO_sizeFaults_274 (fun _ _ => ?_) (fun _ _ _ => ?_) | refine q_mb ?_ ?_ | refine q_ma (fun _ => ?_) | refine q_me (fun _ => ?_) | refine q_mi ?_ | exact id
theorem mn_wj_MO_sizeFaults_119 {post post' : Int32 → gMem → Prop} {k59 k59' : Int64 → Int32 → gMem → Prop} {v3 : Int32} {v4 : Int32} {v5 : Int64} {v7 : Int32} {s0 : Int64} {s1 : Int64} {M : gMem} (h_post : ∀ y0 y1, post y0 y1 → post' y0 y1) (h_k59 : ∀ y0 y1 y2, k59 y0 y1 y2 → k59' y0 y1 y2) : wj_MO_sizeFaults_119 post k59 v3 v4 v5 v7 s0 s1 M → wj_MO_sizeFaults_119 post' k59' v3 v4 v5 v7 s0 s1 M := by
  unfold wj_MO_sizeFaults_119
  repeat' with_reducible first | exact h_post _ _ | exact h_k59 _ _ _ | refine mn_wj_MO_sizeFaults_269 (fun _ _ => ?_) (fun _ _ _ => ?_) | refine mn_wj_MO_sizeFaults_273 (fun _ _ => ?_) (fun _ _ _ => ?_) | refine mn_wj_MO_sizeFaults_229 (fun _ _ => ?_) (fun _ _ _ => ?_) | refine mn_wj_MO_sizeFaults_274 (fun _ _ => ?_) (fun _ _ _ => ?_) | refine mn_wj_MO_sizeFaults_197 (fun _ _ => ?_) (fun _ _ _ => ?_) | refine q_mb ?_ ?_ | refine q_ma (fun _ => ?_) | refine q_me (fun _ => ?_) | refine q_mi ?_ | exact id
theorem mn_wj_MO_sizeFaults_101 {post post' : Int32 → gMem → Prop} {k59 k59' : Int64 → Int32 → gMem → Prop} {v1 : Int64} {v3 : Int32} {v4 : Int32} {v5 : Int64} {s0 : Int32} {M : gMem} (h_post : ∀ y0 y1, post y0 y1 → post' y0 y1) (h_k59 : ∀ y0 y1 y2, k59 y0 y1 y2 → k59' y0 y1 y2) : wj_MO_sizeFaults_101 post k59 v1 v3 v4 v5 s0 M → wj_MO_sizeFaults_101 post' k59' v1 v3 v4 v5 s0 M := by
  unfold wj_MO_sizeFaults_101
  repeat' with_reducible first | exact h_post _ _ | exact h_k59 _ _ _ | refine mn_wj_MO_sizeFaults_119 (fun _ _ => ?_) (fun _ _ _ => ?_) | refine q_mb ?_ ?_ | refine q_ma (fun _ => ?_) | refine q_me (fun _ => ?_) | refine q_mi ?_ | exact id
theorem mn_wj_MO_sizeFaults_100 {post post' : Int32 → gMem → Prop} {k59 k59' : Int64 → Int32 → gMem → Prop} {v1 : Int64} {v3 : Int32} {v4 : Int32} {v5 : Int64} {M : gMem} (h_post : ∀ y0 y1, post y0 y1 → post' y0 y1) (h_k59 : ∀ y0 y1 y2, k59 y0 y1 y2 → k59' y0 y1 y2) : wj_MO_sizeFaults_100 post k59 v1 v3 v4 v5 M → wj_MO_sizeFaults_100 post' k59' v1 v3 v4 v5 M := by
  unfold wj_MO_sizeFaults_100
  repeat' with_reducible first | exact h_post _ _ | exact h_k59 _ _ _ | refine mn_wj_MO_sizeFaults_101 (fun _ _ => ?_) (fun _ _ _ => ?_) | refine q_mb ?_ ?_ | refine q_ma (fun _ => ?_) | refine q_me (fun _ => ?_) | refine q_mi ?_ | exact id
theorem mn_wl_MO_sizeFaults_59 {post post' : Int32 → gMem → Prop}  (h_post : ∀ y0 y1, post y0 y1 → post' y0 y1) : ∀ (n : Nat) (z0 : Int64) (z1 : Int32) (z2 : gMem), wl_MO_sizeFaults_59 post n z0 z1 z2 → wl_MO_sizeFaults_59 post' n z0 z1 z2 := by
  intro n
  induction n with
  | zero => intro z0 z1 z2 h; exact h
  | succ n ih =>
    intro z0 z1 z2
    unfold wl_MO_sizeFaults_59
    repeat' with_reducible first | exact h_post _ _ | exact ih _ _ _ | refine mn_wp_MO_bytesOf (fun _ _ => ?_) | refine mn_wp_MO_from (fun _ _ => ?_) | refine mn_wp_MO_fault (fun _ _ => ?_) | refine mn_wp_MO_spotOf (fun _ _ => ?_) | refine mn_wp_MO_told (fun _ _ => ?_) | refine mn_wj_MO_sizeFaults_100 (fun _ _ => ?_) (fun _ _ _ => ?_) | refine mn_wj_MO_sizeFaults_101 (fun _ _ => ?_) (fun _ _ _ => ?_) | refine q_mb ?_ ?_ | refine q_ma (fun _ => ?_) | refine q_me (fun _ => ?_) | refine q_mi ?_ | exact id
theorem mn_wp_MO_sizeFaults {post post' : Int32 → gMem → Prop} {M : gMem} (h_post : ∀ y0 y1, post y0 y1 → post' y0 y1) : wp_MO_sizeFaults post M → wp_MO_sizeFaults post' M := by
  unfold wp_MO_sizeFaults
  repeat' with_reducible first | exact h_post _ _ | refine mn_wp_MO_fault (fun _ _ => ?_) | refine mn_wp_MO_read2 (fun _ _ => ?_) | refine mn_wl_MO_sizeFaults_59 (fun _ _ => ?_) _ _ _ _ | refine q_mb ?_ ?_ | refine q_ma (fun _ => ?_) | refine q_me (fun _ => ?_) | refine q_mi ?_ | exact id
theorem mn_wp_MO_symbolsIn {post post' : Int32 → gMem → Prop} {M : gMem} (h_post : ∀ y0 y1, post y0 y1 → post' y0 y1) : wp_MO_symbolsIn post M → wp_MO_symbolsIn post' M := by
  unfold wp_MO_symbolsIn
  repeat' with_reducible first | exact h_post _ _ | refine mn_wp_MO_bytesOf (fun _ _ => ?_) | refine q_mb ?_ ?_ | refine q_ma (fun _ => ?_) | refine q_me (fun _ => ?_) | refine q_mi ?_ | exact id
theorem mn_wp_MO_symbolPlace {post post' : Int32 → gMem → Prop} {a0 : Int32} {M : gMem} (h_post : ∀ y0 y1, post y0 y1 → post' y0 y1) : wp_MO_symbolPlace post a0 M → wp_MO_symbolPlace post' a0 M := by
  unfold wp_MO_symbolPlace
  repeat' with_reducible first | exact h_post _ _ | refine mn_wp_MO_from (fun _ _ => ?_) | refine q_mb ?_ ?_ | refine q_ma (fun _ => ?_) | refine q_me (fun _ => ?_) | refine q_mi ?_ | exact id
theorem mn_wp_MO_bindOf {post post' : Int32 → gMem → Prop} {a0 : Int32} {M : gMem} (h_post : ∀ y0 y1, post y0 y1 → post' y0 y1) : wp_MO_bindOf post a0 M → wp_MO_bindOf post' a0 M := by
  unfold wp_MO_bindOf
  repeat' with_reducible first | exact h_post _ _ | refine mn_wp_MO_symbolPlace (fun _ _ => ?_) | refine q_mb ?_ ?_ | refine q_ma (fun _ => ?_) | refine q_me (fun _ => ?_) | refine q_mi ?_ | exact id
theorem mn_wl_MO_infoFault_4 {post post' : Int32 → gMem → Prop}  (h_post : ∀ y0 y1, post y0 y1 → post' y0 y1) : ∀ (n : Nat) (z0 : Int64) (z1 : Int32) (z2 : gMem), wl_MO_infoFault_4 post n z0 z1 z2 → wl_MO_infoFault_4 post' n z0 z1 z2 := by
  intro n
  induction n with
  | zero => intro z0 z1 z2 h; exact h
  | succ n ih =>
    intro z0 z1 z2
    unfold wl_MO_infoFault_4
    repeat' with_reducible first | exact h_post _ _ | exact ih _ _ _ | refine mn_wp_MO_symbolsIn (fun _ _ => ?_) | refine mn_wp_MO_told (fun _ _ => ?_) | refine mn_wp_MO_spotOf (fun _ _ => ?_) | refine mn_wp_MO_fault (fun _ _ => ?_) | refine mn_wp_MO_bindOf (fun _ _ => ?_) | refine q_mb ?_ ?_ | refine q_ma (fun _ => ?_) | refine q_me (fun _ => ?_) | refine q_mi ?_ | exact id
theorem mn_wp_MO_infoFault {post post' : Int32 → gMem → Prop} {M : gMem} (h_post : ∀ y0 y1, post y0 y1 → post' y0 y1) : wp_MO_infoFault post M → wp_MO_infoFault post' M := by
  unfold wp_MO_infoFault
  repeat' with_reducible first | exact h_post _ _ | refine mn_wl_MO_infoFault_4 (fun _ _ => ?_) _ _ _ _ | refine q_mb ?_ ?_ | refine q_ma (fun _ => ?_) | refine q_me (fun _ => ?_) | refine q_mi ?_ | exact id
theorem mn_wj_MO_startFaults_140 {post post' : Int32 → gMem → Prop} {s0 : Int32} {s1 : Int32} {M : gMem} (h_post : ∀ y0 y1, post y0 y1 → post' y0 y1) : wj_MO_startFaults_140 post s0 s1 M → wj_MO_startFaults_140 post' s0 s1 M := by
  unfold wj_MO_startFaults_140
  repeat' with_reducible first | exact h_post _ _ | refine mn_wp_MO_fault (fun _ _ => ?_) | refine q_mb ?_ ?_ | refine q_ma (fun _ => ?_) | refine q_me (fun _ => ?_) | refine q_mi ?_ | exact id
theorem mn_wj_MO_startFaults_131 {post post' : Int32 → gMem → Prop} {v1 : Int32} {s0 : Int32} {M : gMem} (h_post : ∀ y0 y1, post y0 y1 → post' y0 y1) : wj_MO_startFaults_131 post v1 s0 M → wj_MO_startFaults_131 post' v1 s0 M := by
  unfold wj_MO_startFaults_131
  repeat' with_reducible first | exact h_post _ _ | refine mn_wj_MO_startFaults_140 (fun _ _ => ?_) | refine q_mb ?_ ?_ | refine q_ma (fun _ => ?_) | refine q_me (fun _ => ?_) | refine q_mi ?_ | exact id
theorem mn_wj_MO_startFaults_61 {post post' : Int32 → gMem → Prop} {k13 k13' : Int32 → Int32 → Int32 → gMem → Prop} {v1 : Int32} {v2 : Int32} {v3 : Int32} {v4 : Int32} {v5 : Int32} {M : gMem} (h_post : ∀ y0 y1, post y0 y1 → post' y0 y1) (h_k13 : ∀ y0 y1 y2 y3, k13 y0 y1 y2 y3 → k13' y0 y1 y2 y3) : wj_MO_startFaults_61 post k13 v1 v2 v3 v4 v5 M → wj_MO_startFaults_61 post' k13' v1 v2 v3 v4 v5 M := by
  unfold wj_MO_startFaults_61
  repeat' with_reducible first | exact h_post _ _ | exact h_k13 _ _ _ _ | refine mn_wp_MO_bytesOf (fun _ _ => ?_) | refine mn_wp_MO_from (fun _ _ => ?_) | refine mn_wp_MO_isShort (fun _ _ => ?_) | refine mn_wp_MO_fault (fun _ _ => ?_) | refine q_mb ?_ ?_ | refine q_ma (fun _ => ?_) | refine q_me (fun _ => ?_) | refine q_mi ?_ | exact id
theorem mn_wl_MO_startFaults_13 {post post' : Int32 → gMem → Prop}  (h_post : ∀ y0 y1, post y0 y1 → post' y0 y1) : ∀ (n : Nat) (z0 : Int32) (z1 : Int32) (z2 : Int32) (z3 : gMem), wl_MO_startFaults_13 post n z0 z1 z2 z3 → wl_MO_startFaults_13 post' n z0 z1 z2 z3 := by
  intro n
  induction n with
  | zero => intro z0 z1 z2 z3 h; exact h
  | succ n ih =>
    intro z0 z1 z2 z3
    unfold wl_MO_startFaults_13
    repeat' with_reducible first | exact h_post _ _ | exact ih _ _ _ _ | refine mn_wp_MO_read4 (fun _ _ => ?_) | refine mn_wj_MO_startFaults_131 (fun _ _ => ?_) | refine mn_wp_MO_from (fun _ _ => ?_) | refine mn_wp_MO_read2 (fun _ _ => ?_) | refine mn_wp_MO_fault (fun _ _ => ?_) | refine mn_wj_MO_startFaults_61 (fun _ _ => ?_) (fun _ _ _ _ => ?_) | refine q_mb ?_ ?_ | refine q_ma (fun _ => ?_) | refine q_me (fun _ => ?_) | refine q_mi ?_ | exact id
theorem mn_wp_MO_startFaults {post post' : Int32 → gMem → Prop} {M : gMem} (h_post : ∀ y0 y1, post y0 y1 → post' y0 y1) : wp_MO_startFaults post M → wp_MO_startFaults post' M := by
  unfold wp_MO_startFaults
  repeat' with_reducible first | exact h_post _ _ | refine mn_wp_MO_bytesOf (fun _ _ => ?_) | refine mn_wl_MO_startFaults_13 (fun _ _ => ?_) _ _ _ _ _ | refine q_mb ?_ ?_ | refine q_ma (fun _ => ?_) | refine q_me (fun _ => ?_) | refine q_mi ?_ | exact id
theorem mn_wj_MO_relocationFault_73 {post post' : Int32 → gMem → Prop} {v2 : Int32} {M : gMem} (h_post : ∀ y0 y1, post y0 y1 → post' y0 y1) : wj_MO_relocationFault_73 post v2 M → wj_MO_relocationFault_73 post' v2 M := by
  unfold wj_MO_relocationFault_73
  repeat' with_reducible first | exact h_post _ _ | refine mn_wp_MO_fault (fun _ _ => ?_) | refine q_mb ?_ ?_ | refine q_ma (fun _ => ?_) | refine q_me (fun _ => ?_) | refine q_mi ?_ | exact id
theorem mn_wj_MO_relocationFault_119 {post post' : Int32 → gMem → Prop} {v1 : Int32} {v2 : Int32} {v5 : Int32} {v8 : Int64} {M : gMem} (h_post : ∀ y0 y1, post y0 y1 → post' y0 y1) : wj_MO_relocationFault_119 post v1 v2 v5 v8 M → wj_MO_relocationFault_119 post' v1 v2 v5 v8 M := by
  unfold wj_MO_relocationFault_119
  repeat' with_reducible first | exact h_post _ _ | refine mn_wp_MO_widthOf (fun _ _ => ?_) | refine mn_wp_MO_read4 (fun _ _ => ?_) | refine mn_wp_MO_bytesOf (fun _ _ => ?_) | refine mn_wp_MO_fault (fun _ _ => ?_) | refine q_mb ?_ ?_ | refine q_ma (fun _ => ?_) | refine q_me (fun _ => ?_) | refine q_mi ?_ | exact id
theorem mn_wj_MO_relocationFault_70 {post post' : Int32 → gMem → Prop} {v1 : Int32} {v2 : Int32} {v5 : Int32} {s0 : Int32} {s1 : Int32} {M : gMem} (h_post : ∀ y0 y1, post y0 y1 → post' y0 y1) : wj_MO_relocationFault_70 post v1 v2 v5 s0 s1 M → wj_MO_relocationFault_70 post' v1 v2 v5 s0 s1 M := by
  unfold wj_MO_relocationFault_70
  repeat' with_reducible first | exact h_post _ _ | refine mn_wp_MO_read4 (fun _ _ => ?_) | refine mn_wj_MO_relocationFault_119 (fun _ _ => ?_) | refine mn_wp_MO_isSkip (fun _ _ => ?_) | refine mn_wp_MO_fault (fun _ _ => ?_) | refine mn_wj_MO_relocationFault_73 (fun _ _ => ?_) | refine q_mb ?_ ?_ | refine q_ma (fun _ => ?_) | refine q_me (fun _ => ?_) | refine q_mi ?_ | exact id
theorem mn_wp_MO_relocationFault {post post' : Int32 → gMem → Prop} {a0 : Int32} {a1 : Int32} {M : gMem} (h_post : ∀ y0 y1, post y0 y1 → post' y0 y1) : wp_MO_relocationFault post a0 a1 M → wp_MO_relocationFault post' a0 a1 M := by
  unfold wp_MO_relocationFault
  repeat' with_reducible first | exact h_post _ _ | refine mn_wp_MO_read4 (fun _ _ => ?_) | refine mn_wp_MO_isKindOf (fun _ _ => ?_) | refine mn_wp_MO_symbolsIn (fun _ _ => ?_) | refine mn_wj_MO_relocationFault_73 (fun _ _ => ?_) | refine mn_wp_MO_isAlone (fun _ _ => ?_) | refine mn_wj_MO_relocationFault_70 (fun _ _ => ?_) | refine mn_wp_MO_fault (fun _ _ => ?_) | refine q_mb ?_ ?_ | refine q_ma (fun _ => ?_) | refine q_me (fun _ => ?_) | refine q_mi ?_ | exact id
theorem mn_wp_MO_namePlace {post post' : Int32 → gMem → Prop} {a0 : Int32} {M : gMem} (h_post : ∀ y0 y1, post y0 y1 → post' y0 y1) : wp_MO_namePlace post a0 M → wp_MO_namePlace post' a0 M := by
  unfold wp_MO_namePlace
  repeat' with_reducible first | exact h_post _ _ | refine mn_wp_MO_from (fun _ _ => ?_) | refine mn_wp_MO_symbolPlace (fun _ _ => ?_) | refine mn_wp_MO_read4 (fun _ _ => ?_) | refine q_mb ?_ ?_ | refine q_ma (fun _ => ?_) | refine q_me (fun _ => ?_) | refine q_mi ?_ | exact id
theorem mn_wl_MO_nameLength_2 {post post' : Int32 → gMem → Prop}  (h_post : ∀ y0 y1, post y0 y1 → post' y0 y1) : ∀ (n : Nat) (z0 : Int32) (z1 : Int32) (z2 : gMem), wl_MO_nameLength_2 post n z0 z1 z2 → wl_MO_nameLength_2 post' n z0 z1 z2 := by
  intro n
  induction n with
  | zero => intro z0 z1 z2 h; exact h
  | succ n ih =>
    intro z0 z1 z2
    unfold wl_MO_nameLength_2
    repeat' with_reducible first | exact h_post _ _ | exact ih _ _ _ | refine q_mb ?_ ?_ | refine q_ma (fun _ => ?_) | refine q_me (fun _ => ?_) | refine q_mi ?_ | exact id
theorem mn_wp_MO_nameLength {post post' : Int32 → gMem → Prop} {a0 : Int32} {M : gMem} (h_post : ∀ y0 y1, post y0 y1 → post' y0 y1) : wp_MO_nameLength post a0 M → wp_MO_nameLength post' a0 M := by
  unfold wp_MO_nameLength
  repeat' with_reducible first | exact h_post _ _ | refine mn_wl_MO_nameLength_2 (fun _ _ => ?_) _ _ _ _ | refine q_mb ?_ ?_ | refine q_ma (fun _ => ?_) | refine q_me (fun _ => ?_) | refine q_mi ?_ | exact id
theorem mn_wl_MO_isName_25 {post post' : Bool → gMem → Prop}  (h_post : ∀ y0 y1, post y0 y1 → post' y0 y1) : ∀ (n : Nat) (z0 : Int32) (z1 : Int32) (z2 : Int32) (z3 : Int32) (z4 : gMem), wl_MO_isName_25 post n z0 z1 z2 z3 z4 → wl_MO_isName_25 post' n z0 z1 z2 z3 z4 := by
  intro n
  induction n with
  | zero => intro z0 z1 z2 z3 z4 h; exact h
  | succ n ih =>
    intro z0 z1 z2 z3 z4
    unfold wl_MO_isName_25
    repeat' with_reducible first | exact h_post _ _ | exact ih _ _ _ _ _ | refine q_mb ?_ ?_ | refine q_ma (fun _ => ?_) | refine q_me (fun _ => ?_) | refine q_mi ?_ | exact id
theorem mn_wp_MO_isName {post post' : Bool → gMem → Prop} {a0 : Int32} {M : gMem} (h_post : ∀ y0 y1, post y0 y1 → post' y0 y1) : wp_MO_isName post a0 M → wp_MO_isName post' a0 M := by
  unfold wp_MO_isName
  repeat' with_reducible first | exact h_post _ _ | refine mn_wp_MO_nameLength (fun _ _ => ?_) | refine mn_wl_MO_isName_25 (fun _ _ => ?_) _ _ _ _ _ _ | refine q_mb ?_ ?_ | refine q_ma (fun _ => ?_) | refine q_me (fun _ => ?_) | refine q_mi ?_ | exact id
theorem mn_wl_MO_whereOf_37 {post post' : Int32 → gMem → Prop}  (h_post : ∀ y0 y1, post y0 y1 → post' y0 y1) : ∀ (n : Nat) (z0 : Int32) (z1 : Int32) (z2 : gMem), wl_MO_whereOf_37 post n z0 z1 z2 → wl_MO_whereOf_37 post' n z0 z1 z2 := by
  intro n
  induction n with
  | zero => intro z0 z1 z2 h; exact h
  | succ n ih =>
    intro z0 z1 z2
    unfold wl_MO_whereOf_37
    repeat' with_reducible first | exact h_post _ _ | exact ih _ _ _ | refine q_mb ?_ ?_ | refine q_ma (fun _ => ?_) | refine q_me (fun _ => ?_) | refine q_mi ?_ | exact id
theorem mn_wp_MO_whereOf {post post' : Int32 → gMem → Prop} {a0 : Int32} {M : gMem} (h_post : ∀ y0 y1, post y0 y1 → post' y0 y1) : wp_MO_whereOf post a0 M → wp_MO_whereOf post' a0 M := by
  unfold wp_MO_whereOf
  repeat' with_reducible first | exact h_post _ _ | refine mn_wp_MO_symbolPlace (fun _ _ => ?_) | refine mn_wp_MO_read2 (fun _ _ => ?_) | refine mn_wl_MO_whereOf_37 (fun _ _ => ?_) _ _ _ _ | refine q_mb ?_ ?_ | refine q_ma (fun _ => ?_) | refine q_me (fun _ => ?_) | refine q_mi ?_ | exact id
theorem mn_wp_MO_amiss {post post' : Int32 → gMem → Prop} {a0 : Int32} {M : gMem} (h_post : ∀ y0 y1, post y0 y1 → post' y0 y1) : wp_MO_amiss post a0 M → wp_MO_amiss post' a0 M := by
  unfold wp_MO_amiss
  repeat' with_reducible first | exact h_post _ _ | refine mn_wp_MO_symbolPlace (fun _ _ => ?_) | refine mn_wp_MO_whereOf (fun _ _ => ?_) | refine mn_wp_MO_read4 (fun _ _ => ?_) | refine mn_wp_MO_bytesOf (fun _ _ => ?_) | refine mn_wp_MO_isPower (fun _ _ => ?_) | refine mn_wp_MO_bindOf (fun _ _ => ?_) | refine q_mb ?_ ?_ | refine q_ma (fun _ => ?_) | refine q_me (fun _ => ?_) | refine q_mi ?_ | exact id
theorem mn_wj_MO_isSameIn_56 {post post' : Bool → gMem → Prop} {v3 : Int32} {v4 : Int32} {v5 : Int32} {M : gMem} (h_post : ∀ y0 y1, post y0 y1 → post' y0 y1) : wj_MO_isSameIn_56 post v3 v4 v5 M → wj_MO_isSameIn_56 post' v3 v4 v5 M := by
  unfold wj_MO_isSameIn_56
  repeat' with_reducible first | exact h_post _ _ | refine q_mb ?_ ?_ | refine q_ma (fun _ => ?_) | refine q_me (fun _ => ?_) | refine q_mi ?_ | exact id
theorem mn_wl_MO_isSameIn_16 {post post' : Bool → gMem → Prop}  (h_post : ∀ y0 y1, post y0 y1 → post' y0 y1) : ∀ (n : Nat) (z0 : Int32) (z1 : Int32) (z2 : Int32) (z3 : gMem), wl_MO_isSameIn_16 post n z0 z1 z2 z3 → wl_MO_isSameIn_16 post' n z0 z1 z2 z3 := by
  intro n
  induction n with
  | zero => intro z0 z1 z2 z3 h; exact h
  | succ n ih =>
    intro z0 z1 z2 z3
    unfold wl_MO_isSameIn_16
    repeat' with_reducible first | exact h_post _ _ | exact ih _ _ _ _ | refine mn_wj_MO_isSameIn_56 (fun _ _ => ?_) | refine q_mb ?_ ?_ | refine q_ma (fun _ => ?_) | refine q_me (fun _ => ?_) | refine q_mi ?_ | exact id
theorem mn_wp_MO_isSameIn {post post' : Bool → gMem → Prop} {a0 : Int32} {a1 : Int32} {M : gMem} (h_post : ∀ y0 y1, post y0 y1 → post' y0 y1) : wp_MO_isSameIn post a0 a1 M → wp_MO_isSameIn post' a0 a1 M := by
  unfold wp_MO_isSameIn
  repeat' with_reducible first | exact h_post _ _ | refine mn_wp_MO_namePlace (fun _ _ => ?_) | refine mn_wl_MO_isSameIn_16 (fun _ _ => ?_) _ _ _ _ _ | refine q_mb ?_ ?_ | refine q_ma (fun _ => ?_) | refine q_me (fun _ => ?_) | refine q_mi ?_ | exact id
theorem mn_wj_MO_symbolFault_111 {post post' : Int32 → gMem → Prop} {v2 : Int32} {M : gMem} (h_post : ∀ y0 y1, post y0 y1 → post' y0 y1) : wj_MO_symbolFault_111 post v2 M → wj_MO_symbolFault_111 post' v2 M := by
  unfold wj_MO_symbolFault_111
  repeat' with_reducible first | exact h_post _ _ | refine mn_wp_MO_fault (fun _ _ => ?_) | refine q_mb ?_ ?_ | refine q_ma (fun _ => ?_) | refine q_me (fun _ => ?_) | refine q_mi ?_ | exact id
theorem mn_wl_MO_symbolFault_224 {post post' : Int32 → gMem → Prop}  (h_post : ∀ y0 y1, post y0 y1 → post' y0 y1) : ∀ (n : Nat) (z0 : Int32) (z1 : Int32) (z2 : Int32) (z3 : Int32) (z4 : gMem), wl_MO_symbolFault_224 post n z0 z1 z2 z3 z4 → wl_MO_symbolFault_224 post' n z0 z1 z2 z3 z4 := by
  intro n
  induction n with
  | zero => intro z0 z1 z2 z3 z4 h; exact h
  | succ n ih =>
    intro z0 z1 z2 z3 z4
    unfold wl_MO_symbolFault_224
    repeat' with_reducible first | exact h_post _ _ | exact ih _ _ _ _ _ | refine mn_wp_MO_bindOf (fun _ _ => ?_) | refine mn_wp_MO_isSameIn (fun _ _ => ?_) | refine mn_wp_MO_fault (fun _ _ => ?_) | refine q_mb ?_ ?_ | refine q_ma (fun _ => ?_) | refine q_me (fun _ => ?_) | refine q_mi ?_ | exact id
theorem mn_wj_MO_symbolFault_177 {post post' : Int32 → gMem → Prop} {v1 : Int32} {v2 : Int32} {v3 : Int32} {M : gMem} (h_post : ∀ y0 y1, post y0 y1 → post' y0 y1) : wj_MO_symbolFault_177 post v1 v2 v3 M → wj_MO_symbolFault_177 post' v1 v2 v3 M := by
  unfold wj_MO_symbolFault_177
  repeat' with_reducible first | exact h_post _ _ | refine mn_wp_MO_whereOf (fun _ _ => ?_) | refine mn_wp_MO_amiss (fun _ _ => ?_) | refine mn_wl_MO_symbolFault_224 (fun _ _ => ?_) _ _ _ _ _ _ | refine mn_wp_MO_fault (fun _ _ => ?_) | refine q_mb ?_ ?_ | refine q_ma (fun _ => ?_) | refine q_me (fun _ => ?_) | refine q_mi ?_ | exact id
theorem mn_wj_MO_symbolFault_45 {post post' : Int32 → gMem → Prop} {v1 : Int32} {v2 : Int32} {M : gMem} (h_post : ∀ y0 y1, post y0 y1 → post' y0 y1) : wj_MO_symbolFault_45 post v1 v2 M → wj_MO_symbolFault_45 post' v1 v2 M := by
  unfold wj_MO_symbolFault_45
  repeat' with_reducible first | exact h_post _ _ | refine mn_wp_MO_read4 (fun _ _ => ?_) | refine mn_wp_MO_bytesOf (fun _ _ => ?_) | refine mn_wp_MO_fault (fun _ _ => ?_) | refine mn_wp_MO_namePlace (fun _ _ => ?_) | refine mn_wp_MO_isName (fun _ _ => ?_) | refine mn_wj_MO_symbolFault_111 (fun _ _ => ?_) | refine mn_wj_MO_symbolFault_177 (fun _ _ => ?_) | refine mn_wp_MO_bindOf (fun _ _ => ?_) | refine q_mb ?_ ?_ | refine q_ma (fun _ => ?_) | refine q_me (fun _ => ?_) | refine q_mi ?_ | exact id
theorem mn_wl_MO_symbolFault_8 {post post' : Int32 → gMem → Prop}  (h_post : ∀ y0 y1, post y0 y1 → post' y0 y1) : ∀ (n : Nat) (z0 : Int32) (z1 : Int32) (z2 : Int32) (z3 : gMem), wl_MO_symbolFault_8 post n z0 z1 z2 z3 → wl_MO_symbolFault_8 post' n z0 z1 z2 z3 := by
  intro n
  induction n with
  | zero => intro z0 z1 z2 z3 h; exact h
  | succ n ih =>
    intro z0 z1 z2 z3
    unfold wl_MO_symbolFault_8
    repeat' with_reducible first | exact h_post _ _ | exact ih _ _ _ _ | refine mn_wj_MO_symbolFault_45 (fun _ _ => ?_) | refine mn_wp_MO_fault (fun _ _ => ?_) | refine q_mb ?_ ?_ | refine q_ma (fun _ => ?_) | refine q_me (fun _ => ?_) | refine q_mi ?_ | exact id
theorem mn_wp_MO_symbolFault {post post' : Int32 → gMem → Prop} {a0 : Int32} {M : gMem} (h_post : ∀ y0 y1, post y0 y1 → post' y0 y1) : wp_MO_symbolFault post a0 M → wp_MO_symbolFault post' a0 M := by
  unfold wp_MO_symbolFault
  repeat' with_reducible first | exact h_post _ _ | refine mn_wp_MO_symbolPlace (fun _ _ => ?_) | refine mn_wl_MO_symbolFault_8 (fun _ _ => ?_) _ _ _ _ _ | refine q_mb ?_ ?_ | refine q_ma (fun _ => ?_) | refine q_me (fun _ => ?_) | refine q_mi ?_ | exact id
theorem mn_wj_MO_ruleFault_166 {post post' : Int32 → gMem → Prop} {v1 : Int32} {M : gMem} (h_post : ∀ y0 y1, post y0 y1 → post' y0 y1) : wj_MO_ruleFault_166 post v1 M → wj_MO_ruleFault_166 post' v1 M := by
  unfold wj_MO_ruleFault_166
  repeat' with_reducible first | exact h_post _ _ | refine mn_wp_MO_spotOf (fun _ _ => ?_) | refine mn_wp_MO_fault (fun _ _ => ?_) | refine q_mb ?_ ?_ | refine q_ma (fun _ => ?_) | refine q_me (fun _ => ?_) | refine q_mi ?_ | exact id
theorem mn_wj_MO_ruleFault_241 {post post' : Int32 → gMem → Prop} {v1 : Int32} {v2 : Int32} {M : gMem} (h_post : ∀ y0 y1, post y0 y1 → post' y0 y1) : wj_MO_ruleFault_241 post v1 v2 M → wj_MO_ruleFault_241 post' v1 v2 M := by
  unfold wj_MO_ruleFault_241
  repeat' with_reducible first | exact h_post _ _ | refine mn_wp_MO_told (fun _ _ => ?_) | refine mn_wp_MO_eachOf (fun _ _ => ?_) | refine mn_wp_MO_spotOf (fun _ _ => ?_) | refine mn_wp_MO_fault (fun _ _ => ?_) | refine q_mb ?_ ?_ | refine q_ma (fun _ => ?_) | refine q_me (fun _ => ?_) | refine q_mi ?_ | exact id
theorem mn_wj_MO_ruleFault_227 {post post' : Int32 → gMem → Prop} {v1 : Int32} {M : gMem} (h_post : ∀ y0 y1, post y0 y1 → post' y0 y1) : wj_MO_ruleFault_227 post v1 M → wj_MO_ruleFault_227 post' v1 M := by
  unfold wj_MO_ruleFault_227
  repeat' with_reducible first | exact h_post _ _ | refine mn_wp_MO_spotOf (fun _ _ => ?_) | refine mn_wp_MO_fault (fun _ _ => ?_) | refine q_mb ?_ ?_ | refine q_ma (fun _ => ?_) | refine q_me (fun _ => ?_) | refine q_mi ?_ | exact id
theorem mn_wj_MO_ruleFault_196 {post post' : Int32 → gMem → Prop} {v1 : Int32} {v2 : Int32} {v3 : Int32} {s0 : Int32} {M : gMem} (h_post : ∀ y0 y1, post y0 y1 → post' y0 y1) : wj_MO_ruleFault_196 post v1 v2 v3 s0 M → wj_MO_ruleFault_196 post' v1 v2 v3 s0 M := by
  unfold wj_MO_ruleFault_196
  repeat' with_reducible first | exact h_post _ _ | refine mn_wj_MO_ruleFault_241 (fun _ _ => ?_) | refine mn_wp_MO_told (fun _ _ => ?_) | refine mn_wj_MO_ruleFault_227 (fun _ _ => ?_) | refine q_mb ?_ ?_ | refine q_ma (fun _ => ?_) | refine q_me (fun _ => ?_) | refine q_mi ?_ | exact id
theorem mn_wj_MO_ruleFault_180 {post post' : Int32 → gMem → Prop} {v1 : Int32} {v2 : Int32} {v3 : Int32} {M : gMem} (h_post : ∀ y0 y1, post y0 y1 → post' y0 y1) : wj_MO_ruleFault_180 post v1 v2 v3 M → wj_MO_ruleFault_180 post' v1 v2 v3 M := by
  unfold wj_MO_ruleFault_180
  repeat' with_reducible first | exact h_post _ _ | refine mn_wj_MO_ruleFault_196 (fun _ _ => ?_) | refine q_mb ?_ ?_ | refine q_ma (fun _ => ?_) | refine q_me (fun _ => ?_) | refine q_mi ?_ | exact id
theorem mn_wj_MO_ruleFault_161 {post post' : Int32 → gMem → Prop} {v1 : Int32} {v2 : Int32} {v3 : Int32} {v4 : Int32} {M : gMem} (h_post : ∀ y0 y1, post y0 y1 → post' y0 y1) : wj_MO_ruleFault_161 post v1 v2 v3 v4 M → wj_MO_ruleFault_161 post' v1 v2 v3 v4 M := by
  unfold wj_MO_ruleFault_161
  repeat' with_reducible first | exact h_post _ _ | refine mn_wj_MO_ruleFault_180 (fun _ _ => ?_) | refine mn_wj_MO_ruleFault_166 (fun _ _ => ?_) | refine q_mb ?_ ?_ | refine q_ma (fun _ => ?_) | refine q_me (fun _ => ?_) | refine q_mi ?_ | exact id
theorem mn_wj_MO_ruleFault_135 {post post' : Int32 → gMem → Prop} {v1 : Int32} {v2 : Int32} {v3 : Int32} {s0 : Int32} {M : gMem} (h_post : ∀ y0 y1, post y0 y1 → post' y0 y1) : wj_MO_ruleFault_135 post v1 v2 v3 s0 M → wj_MO_ruleFault_135 post' v1 v2 v3 s0 M := by
  unfold wj_MO_ruleFault_135
  repeat' with_reducible first | exact h_post _ _ | refine mn_wp_MO_told (fun _ _ => ?_) | refine mn_wj_MO_ruleFault_166 (fun _ _ => ?_) | refine mn_wj_MO_ruleFault_161 (fun _ _ => ?_) | refine mn_wj_MO_ruleFault_180 (fun _ _ => ?_) | refine q_mb ?_ ?_ | refine q_ma (fun _ => ?_) | refine q_me (fun _ => ?_) | refine q_mi ?_ | exact id
theorem mn_wj_MO_ruleFault_23 {post post' : Int32 → gMem → Prop} {v1 : Int32} {v2 : Int32} {s0 : Int32} {M : gMem} (h_post : ∀ y0 y1, post y0 y1 → post' y0 y1) : wj_MO_ruleFault_23 post v1 v2 s0 M → wj_MO_ruleFault_23 post' v1 v2 s0 M := by
  unfold wj_MO_ruleFault_23
  repeat' with_reducible first | exact h_post _ _ | refine mn_wp_MO_told (fun _ _ => ?_) | refine mn_wp_MO_sortOf (fun _ _ => ?_) | refine mn_wp_MO_flagsOf (fun _ _ => ?_) | refine mn_wj_MO_ruleFault_135 (fun _ _ => ?_) | refine mn_wp_MO_spotOf (fun _ _ => ?_) | refine mn_wp_MO_fault (fun _ _ => ?_) | refine q_mb ?_ ?_ | refine q_ma (fun _ => ?_) | refine q_me (fun _ => ?_) | refine q_mi ?_ | exact id
theorem mn_wj_MO_ruleFault_22 {post post' : Int32 → gMem → Prop} {v1 : Int32} {v2 : Int32} {M : gMem} (h_post : ∀ y0 y1, post y0 y1 → post' y0 y1) : wj_MO_ruleFault_22 post v1 v2 M → wj_MO_ruleFault_22 post' v1 v2 M := by
  unfold wj_MO_ruleFault_22
  repeat' with_reducible first | exact h_post _ _ | refine mn_wj_MO_ruleFault_23 (fun _ _ => ?_) | refine q_mb ?_ ?_ | refine q_ma (fun _ => ?_) | refine q_me (fun _ => ?_) | refine q_mi ?_ | exact id
theorem mn_wp_MO_ruleFault {post post' : Int32 → gMem → Prop} {a0 : Int32} {M : gMem} (h_post : ∀ y0 y1, post y0 y1 → post' y0 y1) : wp_MO_ruleFault post a0 M → wp_MO_ruleFault post' a0 M := by
  unfold wp_MO_ruleFault
  repeat' with_reducible first | exact h_post _ _ | refine mn_wj_MO_ruleFault_22 (fun _ _ => ?_) | refine mn_wj_MO_ruleFault_23 (fun _ _ => ?_) | refine q_mb ?_ ?_ | refine q_ma (fun _ => ?_) | refine q_me (fun _ => ?_) | refine q_mi ?_ | exact id
theorem mn_wp_MO_meets {post post' : Bool → gMem → Prop} {a0 : Int64} {a1 : Int64} {a2 : Int64} {a3 : Int64} {M : gMem} (h_post : ∀ y0 y1, post y0 y1 → post' y0 y1) : wp_MO_meets post a0 a1 a2 a3 M → wp_MO_meets post' a0 a1 a2 a3 M := by
  unfold wp_MO_meets
  repeat' with_reducible first | exact h_post _ _ | refine q_mb ?_ ?_ | refine q_ma (fun _ => ?_) | refine q_me (fun _ => ?_) | refine q_mi ?_ | exact id
theorem mn_wj_MO_entryFault_77 {post post' : Int32 → gMem → Prop} {v1 : Int32} {M : gMem} (h_post : ∀ y0 y1, post y0 y1 → post' y0 y1) : wj_MO_entryFault_77 post v1 M → wj_MO_entryFault_77 post' v1 M := by
  unfold wj_MO_entryFault_77
  repeat' with_reducible first | exact h_post _ _ | refine mn_wp_MO_spotOf (fun _ _ => ?_) | refine mn_wp_MO_fault (fun _ _ => ?_) | refine q_mb ?_ ?_ | refine q_ma (fun _ => ?_) | refine q_me (fun _ => ?_) | refine q_mi ?_ | exact id
theorem mn_wj_MO_entryFault_211 {post post' : Int32 → gMem → Prop} {v1 : Int32} {M : gMem} (h_post : ∀ y0 y1, post y0 y1 → post' y0 y1) : wj_MO_entryFault_211 post v1 M → wj_MO_entryFault_211 post' v1 M := by
  unfold wj_MO_entryFault_211
  repeat' with_reducible first | exact h_post _ _ | refine mn_wp_MO_spotOf (fun _ _ => ?_) | refine mn_wp_MO_fault (fun _ _ => ?_) | refine q_mb ?_ ?_ | refine q_ma (fun _ => ?_) | refine q_me (fun _ => ?_) | refine q_mi ?_ | exact id
theorem mn_wl_MO_entryFault_270 {post post' : Int32 → gMem → Prop}  (h_post : ∀ y0 y1, post y0 y1 → post' y0 y1) : ∀ (n : Nat) (z0 : Int32) (z1 : Int64) (z2 : Int64) (z3 : Int32) (z4 : Int32) (z5 : gMem), wl_MO_entryFault_270 post n z0 z1 z2 z3 z4 z5 → wl_MO_entryFault_270 post' n z0 z1 z2 z3 z4 z5 := by
  intro n
  induction n with
  | zero => intro z0 z1 z2 z3 z4 z5 h; exact h
  | succ n ih =>
    intro z0 z1 z2 z3 z4 z5
    unfold wl_MO_entryFault_270
    repeat' with_reducible first | exact h_post _ _ | exact ih _ _ _ _ _ _ | refine mn_wp_MO_told (fun _ _ => ?_) | refine mn_wp_MO_meets (fun _ _ => ?_) | refine mn_wp_MO_spotOf (fun _ _ => ?_) | refine mn_wp_MO_fault (fun _ _ => ?_) | refine q_mb ?_ ?_ | refine q_ma (fun _ => ?_) | refine q_me (fun _ => ?_) | refine q_mi ?_ | exact id
theorem mn_wj_MO_entryFault_225 {post post' : Int32 → gMem → Prop} {v1 : Int32} {v4 : Int64} {v6 : Int64} {v8 : Int32} {M : gMem} (h_post : ∀ y0 y1, post y0 y1 → post' y0 y1) : wj_MO_entryFault_225 post v1 v4 v6 v8 M → wj_MO_entryFault_225 post' v1 v4 v6 v8 M := by
  unfold wj_MO_entryFault_225
  repeat' with_reducible first | exact h_post _ _ | refine mn_wl_MO_entryFault_270 (fun _ _ => ?_) _ _ _ _ _ _ _ | refine mn_wp_MO_meets (fun _ _ => ?_) | refine mn_wp_MO_spotOf (fun _ _ => ?_) | refine mn_wp_MO_fault (fun _ _ => ?_) | refine q_mb ?_ ?_ | refine q_ma (fun _ => ?_) | refine q_me (fun _ => ?_) | refine q_mi ?_ | exact id
theorem mn_wj_MO_entryFault_169 {post post' : Int32 → gMem → Prop} {v1 : Int32} {v4 : Int64} {v6 : Int64} {v8 : Int32} {M : gMem} (h_post : ∀ y0 y1, post y0 y1 → post' y0 y1) : wj_MO_entryFault_169 post v1 v4 v6 v8 M → wj_MO_entryFault_169 post' v1 v4 v6 v8 M := by
  unfold wj_MO_entryFault_169
  repeat' with_reducible first | exact h_post _ _ | refine mn_wp_MO_told (fun _ _ => ?_) | refine mn_wj_MO_entryFault_211 (fun _ _ => ?_) | refine mn_wp_MO_isPower (fun _ _ => ?_) | refine mn_wj_MO_entryFault_225 (fun _ _ => ?_) | refine q_mb ?_ ?_ | refine q_ma (fun _ => ?_) | refine q_me (fun _ => ?_) | refine q_mi ?_ | exact id
theorem mn_wj_MO_entryFault_156 {post post' : Int32 → gMem → Prop} {v1 : Int32} {M : gMem} (h_post : ∀ y0 y1, post y0 y1 → post' y0 y1) : wj_MO_entryFault_156 post v1 M → wj_MO_entryFault_156 post' v1 M := by
  unfold wj_MO_entryFault_156
  repeat' with_reducible first | exact h_post _ _ | refine mn_wp_MO_spotOf (fun _ _ => ?_) | refine mn_wp_MO_fault (fun _ _ => ?_) | refine q_mb ?_ ?_ | refine q_ma (fun _ => ?_) | refine q_me (fun _ => ?_) | refine q_mi ?_ | exact id
theorem mn_wj_MO_entryFault_119 {post post' : Int32 → gMem → Prop} {v1 : Int32} {v4 : Int64} {v6 : Int64} {s0 : Int32} {M : gMem} (h_post : ∀ y0 y1, post y0 y1 → post' y0 y1) : wj_MO_entryFault_119 post v1 v4 v6 s0 M → wj_MO_entryFault_119 post' v1 v4 v6 s0 M := by
  unfold wj_MO_entryFault_119
  repeat' with_reducible first | exact h_post _ _ | refine mn_wj_MO_entryFault_169 (fun _ _ => ?_) | refine mn_wj_MO_entryFault_156 (fun _ _ => ?_) | refine q_mb ?_ ?_ | refine q_ma (fun _ => ?_) | refine q_me (fun _ => ?_) | refine q_mi ?_ | exact id
theorem mn_wj_MO_entryFault_90 {post post' : Int32 → gMem → Prop} {v1 : Int32} {v2 : Int64} {M : gMem} (h_post : ∀ y0 y1, post y0 y1 → post' y0 y1) : wj_MO_entryFault_90 post v1 v2 M → wj_MO_entryFault_90 post' v1 v2 M := by
  unfold wj_MO_entryFault_90
  repeat' with_reducible first | exact h_post _ _ | refine mn_wp_MO_told (fun _ _ => ?_) | refine mn_wj_MO_entryFault_119 (fun _ _ => ?_) | refine q_mb ?_ ?_ | refine q_ma (fun _ => ?_) | refine q_me (fun _ => ?_) | refine q_mi ?_ | exact id
theorem mn_wj_MO_entryFault_42 {post post' : Int32 → gMem → Prop} {v1 : Int32} {M : gMem} (h_post : ∀ y0 y1, post y0 y1 → post' y0 y1) : wj_MO_entryFault_42 post v1 M → wj_MO_entryFault_42 post' v1 M := by
  unfold wj_MO_entryFault_42
  repeat' with_reducible first | exact h_post _ _ | refine mn_wp_MO_told (fun _ _ => ?_) | refine mn_wj_MO_entryFault_77 (fun _ _ => ?_) | refine mn_wj_MO_entryFault_90 (fun _ _ => ?_) | refine q_mb ?_ ?_ | refine q_ma (fun _ => ?_) | refine q_me (fun _ => ?_) | refine q_mi ?_ | exact id
theorem mn_wl_MO_entryFault_2 {post post' : Int32 → gMem → Prop}  (h_post : ∀ y0 y1, post y0 y1 → post' y0 y1) : ∀ (n : Nat) (z0 : Int32) (z1 : Int32) (z2 : gMem), wl_MO_entryFault_2 post n z0 z1 z2 → wl_MO_entryFault_2 post' n z0 z1 z2 := by
  intro n
  induction n with
  | zero => intro z0 z1 z2 h; exact h
  | succ n ih =>
    intro z0 z1 z2
    unfold wl_MO_entryFault_2
    repeat' with_reducible first | exact h_post _ _ | exact ih _ _ _ | refine mn_wj_MO_entryFault_42 (fun _ _ => ?_) | refine mn_wp_MO_told (fun _ _ => ?_) | refine mn_wp_MO_spotOf (fun _ _ => ?_) | refine mn_wp_MO_fault (fun _ _ => ?_) | refine q_mb ?_ ?_ | refine q_ma (fun _ => ?_) | refine q_me (fun _ => ?_) | refine q_mi ?_ | exact id
theorem mn_wp_MO_entryFault {post post' : Int32 → gMem → Prop} {a0 : Int32} {M : gMem} (h_post : ∀ y0 y1, post y0 y1 → post' y0 y1) : wp_MO_entryFault post a0 M → wp_MO_entryFault post' a0 M := by
  unfold wp_MO_entryFault
  repeat' with_reducible first | exact h_post _ _ | refine mn_wl_MO_entryFault_2 (fun _ _ => ?_) _ _ _ _ | refine q_mb ?_ ?_ | refine q_ma (fun _ => ?_) | refine q_me (fun _ => ?_) | refine q_mi ?_ | exact id
theorem mn_wj_MO_allFaults_202 {post post' : Int32 → gMem → Prop} {v1 : Int32} {M : gMem} (h_post : ∀ y0 y1, post y0 y1 → post' y0 y1) : wj_MO_allFaults_202 post v1 M → wj_MO_allFaults_202 post' v1 M := by
  unfold wj_MO_allFaults_202
  repeat' with_reducible first | exact h_post _ _ | refine mn_wp_MO_startFaults (fun _ _ => ?_) | refine q_mb ?_ ?_ | refine q_ma (fun _ => ?_) | refine q_me (fun _ => ?_) | refine q_mi ?_ | exact id
theorem mn_wl_MO_allFaults_161 {post post' : Int32 → gMem → Prop} {k136 k136' : Int32 → Int32 → gMem → Prop}  (h_post : ∀ y0 y1, post y0 y1 → post' y0 y1) (h_k136 : ∀ y0 y1 y2, k136 y0 y1 y2 → k136' y0 y1 y2) : ∀ (n : Nat) (z0 : Int32) (z1 : Int32) (z2 : Int32) (z3 : Int32) (z4 : gMem), wl_MO_allFaults_161 post k136 n z0 z1 z2 z3 z4 → wl_MO_allFaults_161 post' k136' n z0 z1 z2 z3 z4 := by
  intro n
  induction n with
  | zero => intro z0 z1 z2 z3 z4 h; exact h
  | succ n ih =>
    intro z0 z1 z2 z3 z4
    unfold wl_MO_allFaults_161
    repeat' with_reducible first | exact h_post _ _ | exact h_k136 _ _ _ | exact ih _ _ _ _ _ | refine mn_wp_MO_from (fun _ _ => ?_) | refine mn_wp_MO_relocationFault (fun _ _ => ?_) | refine q_mb ?_ ?_ | refine q_ma (fun _ => ?_) | refine q_me (fun _ => ?_) | refine q_mi ?_ | exact id
theorem mn_wl_MO_allFaults_136 {post post' : Int32 → gMem → Prop}  (h_post : ∀ y0 y1, post y0 y1 → post' y0 y1) : ∀ (n : Nat) (z0 : Int32) (z1 : Int32) (z2 : gMem), wl_MO_allFaults_136 post n z0 z1 z2 → wl_MO_allFaults_136 post' n z0 z1 z2 := by
  intro n
  induction n with
  | zero => intro z0 z1 z2 h; exact h
  | succ n ih =>
    intro z0 z1 z2
    unfold wl_MO_allFaults_136
    repeat' with_reducible first | exact h_post _ _ | exact ih _ _ _ | refine mn_wj_MO_allFaults_202 (fun _ _ => ?_) | refine mn_wp_MO_bytesOf (fun _ _ => ?_) | refine mn_wl_MO_allFaults_161 (fun _ _ => ?_) (fun _ _ _ => ?_) _ _ _ _ _ _ | refine q_mb ?_ ?_ | refine q_ma (fun _ => ?_) | refine q_me (fun _ => ?_) | refine q_mi ?_ | exact id
theorem mn_wj_MO_allFaults_121 {post post' : Int32 → gMem → Prop} {v1 : Int32} {M : gMem} (h_post : ∀ y0 y1, post y0 y1 → post' y0 y1) : wj_MO_allFaults_121 post v1 M → wj_MO_allFaults_121 post' v1 M := by
  unfold wj_MO_allFaults_121
  repeat' with_reducible first | exact h_post _ _ | refine mn_wp_MO_infoFault (fun _ _ => ?_) | refine mn_wl_MO_allFaults_136 (fun _ _ => ?_) _ _ _ _ | refine q_mb ?_ ?_ | refine q_ma (fun _ => ?_) | refine q_me (fun _ => ?_) | refine q_mi ?_ | exact id
theorem mn_wl_MO_allFaults_97 {post post' : Int32 → gMem → Prop}  (h_post : ∀ y0 y1, post y0 y1 → post' y0 y1) : ∀ (n : Nat) (z0 : Int32) (z1 : Int32) (z2 : gMem), wl_MO_allFaults_97 post n z0 z1 z2 → wl_MO_allFaults_97 post' n z0 z1 z2 := by
  intro n
  induction n with
  | zero => intro z0 z1 z2 h; exact h
  | succ n ih =>
    intro z0 z1 z2
    unfold wl_MO_allFaults_97
    repeat' with_reducible first | exact h_post _ _ | exact ih _ _ _ | refine mn_wp_MO_symbolsIn (fun _ _ => ?_) | refine mn_wj_MO_allFaults_121 (fun _ _ => ?_) | refine mn_wp_MO_symbolFault (fun _ _ => ?_) | refine q_mb ?_ ?_ | refine q_ma (fun _ => ?_) | refine q_me (fun _ => ?_) | refine q_mi ?_ | exact id
theorem mn_wj_MO_allFaults_88 {post post' : Int32 → gMem → Prop} {s0 : Int32} {M : gMem} (h_post : ∀ y0 y1, post y0 y1 → post' y0 y1) : wj_MO_allFaults_88 post s0 M → wj_MO_allFaults_88 post' s0 M := by
  unfold wj_MO_allFaults_88
  repeat' with_reducible first | exact h_post _ _ | refine mn_wl_MO_allFaults_97 (fun _ _ => ?_) _ _ _ _ | refine q_mb ?_ ?_ | refine q_ma (fun _ => ?_) | refine q_me (fun _ => ?_) | refine q_mi ?_ | exact id
theorem mn_wj_MO_allFaults_76 {post post' : Int32 → gMem → Prop} {v1 : Int32} {M : gMem} (h_post : ∀ y0 y1, post y0 y1 → post' y0 y1) : wj_MO_allFaults_76 post v1 M → wj_MO_allFaults_76 post' v1 M := by
  unfold wj_MO_allFaults_76
  repeat' with_reducible first | exact h_post _ _ | refine mn_wp_MO_sizeFaults (fun _ _ => ?_) | refine mn_wj_MO_allFaults_88 (fun _ _ => ?_) | refine q_mb ?_ ?_ | refine q_ma (fun _ => ?_) | refine q_me (fun _ => ?_) | refine q_mi ?_ | exact id
theorem mn_wl_MO_allFaults_52 {post post' : Int32 → gMem → Prop}  (h_post : ∀ y0 y1, post y0 y1 → post' y0 y1) : ∀ (n : Nat) (z0 : Int32) (z1 : Int32) (z2 : gMem), wl_MO_allFaults_52 post n z0 z1 z2 → wl_MO_allFaults_52 post' n z0 z1 z2 := by
  intro n
  induction n with
  | zero => intro z0 z1 z2 h; exact h
  | succ n ih =>
    intro z0 z1 z2
    unfold wl_MO_allFaults_52
    repeat' with_reducible first | exact h_post _ _ | exact ih _ _ _ | refine mn_wj_MO_allFaults_76 (fun _ _ => ?_) | refine mn_wp_MO_ruleFault (fun _ _ => ?_) | refine q_mb ?_ ?_ | refine q_ma (fun _ => ?_) | refine q_me (fun _ => ?_) | refine q_mi ?_ | exact id
theorem mn_wj_MO_allFaults_37 {post post' : Int32 → gMem → Prop} {v1 : Int32} {M : gMem} (h_post : ∀ y0 y1, post y0 y1 → post' y0 y1) : wj_MO_allFaults_37 post v1 M → wj_MO_allFaults_37 post' v1 M := by
  unfold wj_MO_allFaults_37
  repeat' with_reducible first | exact h_post _ _ | refine mn_wp_MO_nameFaults (fun _ _ => ?_) | refine mn_wl_MO_allFaults_52 (fun _ _ => ?_) _ _ _ _ | refine q_mb ?_ ?_ | refine q_ma (fun _ => ?_) | refine q_me (fun _ => ?_) | refine q_mi ?_ | exact id
theorem mn_wl_MO_allFaults_13 {post post' : Int32 → gMem → Prop}  (h_post : ∀ y0 y1, post y0 y1 → post' y0 y1) : ∀ (n : Nat) (z0 : Int32) (z1 : Int32) (z2 : gMem), wl_MO_allFaults_13 post n z0 z1 z2 → wl_MO_allFaults_13 post' n z0 z1 z2 := by
  intro n
  induction n with
  | zero => intro z0 z1 z2 h; exact h
  | succ n ih =>
    intro z0 z1 z2
    unfold wl_MO_allFaults_13
    repeat' with_reducible first | exact h_post _ _ | exact ih _ _ _ | refine mn_wj_MO_allFaults_37 (fun _ _ => ?_) | refine mn_wp_MO_entryFault (fun _ _ => ?_) | refine q_mb ?_ ?_ | refine q_ma (fun _ => ?_) | refine q_me (fun _ => ?_) | refine q_mi ?_ | exact id
theorem mn_wp_MO_allFaults {post post' : Int32 → gMem → Prop} {M : gMem} (h_post : ∀ y0 y1, post y0 y1 → post' y0 y1) : wp_MO_allFaults post M → wp_MO_allFaults post' M := by
  unfold wp_MO_allFaults
  repeat' with_reducible first | exact h_post _ _ | refine mn_wp_MO_head (fun _ _ => ?_) | refine mn_wl_MO_allFaults_13 (fun _ _ => ?_) _ _ _ _ | refine q_mb ?_ ?_ | refine q_ma (fun _ => ?_) | refine q_me (fun _ => ?_) | refine q_mi ?_ | exact id
theorem mn_wp_MO_takeRelocation {post post' : gMem → Prop} {a0 : Int32} {a1 : Int32} {M : gMem} (h_post : ∀ y0, post y0 → post' y0) : wp_MO_takeRelocation post a0 a1 M → wp_MO_takeRelocation post' a0 a1 M := by
  unfold wp_MO_takeRelocation
  repeat' with_reducible first | exact h_post _ | refine mn_wp_MO_read4 (fun _ _ => ?_) | refine q_mb ?_ ?_ | refine q_ma (fun _ => ?_) | refine q_me (fun _ => ?_) | refine q_mi ?_ | exact id
theorem mn_wl_MO_takeSymbol_24 {post post' : gMem → Prop}  (h_post : ∀ y0, post y0 → post' y0) : ∀ (n : Nat) (z0 : Int32) (z1 : Int32) (z2 : Int32) (z3 : Int32) (z4 : gMem), wl_MO_takeSymbol_24 post n z0 z1 z2 z3 z4 → wl_MO_takeSymbol_24 post' n z0 z1 z2 z3 z4 := by
  intro n
  induction n with
  | zero => intro z0 z1 z2 z3 z4 h; exact h
  | succ n ih =>
    intro z0 z1 z2 z3 z4
    unfold wl_MO_takeSymbol_24
    repeat' with_reducible first | exact h_post _ | exact ih _ _ _ _ _ | refine mn_wp_MO_whereOf (fun _ _ => ?_) | refine mn_wp_MO_read4 (fun _ _ => ?_) | refine mn_wp_MO_bindOf (fun _ _ => ?_) | refine mn_wp_MO_namePlace (fun _ _ => ?_) | refine q_mb ?_ ?_ | refine q_ma (fun _ => ?_) | refine q_me (fun _ => ?_) | refine q_mi ?_ | exact id
theorem mn_wp_MO_takeSymbol {post post' : gMem → Prop} {a0 : Int32} {a1 : Int32} {M : gMem} (h_post : ∀ y0, post y0 → post' y0) : wp_MO_takeSymbol post a0 a1 M → wp_MO_takeSymbol post' a0 a1 M := by
  unfold wp_MO_takeSymbol
  repeat' with_reducible first | exact h_post _ | refine mn_wp_MO_symbolPlace (fun _ _ => ?_) | refine mn_wp_MO_namePlace (fun _ _ => ?_) | refine mn_wp_MO_nameLength (fun _ _ => ?_) | refine mn_wl_MO_takeSymbol_24 (fun _ => ?_) _ _ _ _ _ _ | refine q_mb ?_ ?_ | refine q_ma (fun _ => ?_) | refine q_me (fun _ => ?_) | refine q_mi ?_ | exact id
theorem mn_wl_MO_read_257 {post post' : Int32 → gMem → Prop} {k236 k236' : Int32 → gMem → Prop}  (h_post : ∀ y0 y1, post y0 y1 → post' y0 y1) (h_k236 : ∀ y0 y1, k236 y0 y1 → k236' y0 y1) : ∀ (n : Nat) (z0 : Int32) (z1 : Int32) (z2 : Int32) (z3 : gMem), wl_MO_read_257 post k236 n z0 z1 z2 z3 → wl_MO_read_257 post' k236' n z0 z1 z2 z3 := by
  intro n
  induction n with
  | zero => intro z0 z1 z2 z3 h; exact h
  | succ n ih =>
    intro z0 z1 z2 z3
    unfold wl_MO_read_257
    repeat' with_reducible first | exact h_post _ _ | exact h_k236 _ _ | exact ih _ _ _ _ | refine mn_wp_MO_from (fun _ _ => ?_) | refine mn_wp_MO_takeRelocation (fun _ => ?_) | refine q_mb ?_ ?_ | refine q_ma (fun _ => ?_) | refine q_me (fun _ => ?_) | refine q_mi ?_ | exact id
theorem mn_wl_MO_read_236 {post post' : Int32 → gMem → Prop}  (h_post : ∀ y0 y1, post y0 y1 → post' y0 y1) : ∀ (n : Nat) (z0 : Int32) (z1 : gMem), wl_MO_read_236 post n z0 z1 → wl_MO_read_236 post' n z0 z1 := by
  intro n
  induction n with
  | zero => intro z0 z1 h; exact h
  | succ n ih =>
    intro z0 z1
    unfold wl_MO_read_236
    repeat' with_reducible first | exact h_post _ _ | exact ih _ _ | refine mn_wp_MO_bytesOf (fun _ _ => ?_) | refine mn_wl_MO_read_257 (fun _ _ => ?_) (fun _ _ => ?_) _ _ _ _ _ | refine q_mb ?_ ?_ | refine q_ma (fun _ => ?_) | refine q_me (fun _ => ?_) | refine q_mi ?_ | exact id
theorem mn_wl_MO_read_200 {post post' : Int32 → gMem → Prop}  (h_post : ∀ y0 y1, post y0 y1 → post' y0 y1) : ∀ (n : Nat) (z0 : Int32) (z1 : gMem), wl_MO_read_200 post n z0 z1 → wl_MO_read_200 post' n z0 z1 := by
  intro n
  induction n with
  | zero => intro z0 z1 h; exact h
  | succ n ih =>
    intro z0 z1
    unfold wl_MO_read_200
    repeat' with_reducible first | exact h_post _ _ | exact ih _ _ | refine mn_wl_MO_read_236 (fun _ _ => ?_) _ _ _ | refine mn_wp_MO_takeSymbol (fun _ => ?_) | refine q_mb ?_ ?_ | refine q_ma (fun _ => ?_) | refine q_me (fun _ => ?_) | refine q_mi ?_ | exact id
theorem mn_wl_MO_read_147 {post post' : Int32 → gMem → Prop}  (h_post : ∀ y0 y1, post y0 y1 → post' y0 y1) : ∀ (n : Nat) (z0 : Int32) (z1 : gMem), wl_MO_read_147 post n z0 z1 → wl_MO_read_147 post' n z0 z1 := by
  intro n
  induction n with
  | zero => intro z0 z1 h; exact h
  | succ n ih =>
    intro z0 z1
    unfold wl_MO_read_147
    repeat' with_reducible first | exact h_post _ _ | exact ih _ _ | refine mn_wp_MO_symbolsIn (fun _ _ => ?_) | refine mn_wl_MO_read_200 (fun _ _ => ?_) _ _ _ | refine mn_wp_MO_from (fun _ _ => ?_) | refine mn_wp_MO_read2 (fun _ _ => ?_) | refine q_mb ?_ ?_ | refine q_ma (fun _ => ?_) | refine q_me (fun _ => ?_) | refine q_mi ?_ | exact id
theorem mn_wl_MO_read_71 {post post' : Int32 → gMem → Prop} {k18 k18' : Int32 → gMem → Prop}  (h_post : ∀ y0 y1, post y0 y1 → post' y0 y1) (h_k18 : ∀ y0 y1, k18 y0 y1 → k18' y0 y1) : ∀ (n : Nat) (z0 : Int32) (z1 : Int32) (z2 : gMem), wl_MO_read_71 post k18 n z0 z1 z2 → wl_MO_read_71 post' k18' n z0 z1 z2 := by
  intro n
  induction n with
  | zero => intro z0 z1 z2 h; exact h
  | succ n ih =>
    intro z0 z1 z2
    unfold wl_MO_read_71
    repeat' with_reducible first | exact h_post _ _ | exact h_k18 _ _ | exact ih _ _ _ | refine mn_wp_MO_from (fun _ _ => ?_) | refine q_mb ?_ ?_ | refine q_ma (fun _ => ?_) | refine q_me (fun _ => ?_) | refine q_mi ?_ | exact id
theorem mn_wl_MO_read_18 {post post' : Int32 → gMem → Prop}  (h_post : ∀ y0 y1, post y0 y1 → post' y0 y1) : ∀ (n : Nat) (z0 : Int32) (z1 : gMem), wl_MO_read_18 post n z0 z1 → wl_MO_read_18 post' n z0 z1 := by
  intro n
  induction n with
  | zero => intro z0 z1 h; exact h
  | succ n ih =>
    intro z0 z1
    unfold wl_MO_read_18
    repeat' with_reducible first | exact h_post _ _ | exact ih _ _ | refine mn_wp_MO_bytesOf (fun _ _ => ?_) | refine mn_wl_MO_read_147 (fun _ _ => ?_) _ _ _ | refine mn_wp_MO_told (fun _ _ => ?_) | refine mn_wl_MO_read_71 (fun _ _ => ?_) (fun _ _ => ?_) _ _ _ _ | refine q_mb ?_ ?_ | refine q_ma (fun _ => ?_) | refine q_me (fun _ => ?_) | refine q_mi ?_ | exact id
theorem mn_wp_MO_read {post post' : Int32 → gMem → Prop} {M : gMem} (h_post : ∀ y0 y1, post y0 y1 → post' y0 y1) : wp_MO_read post M → wp_MO_read post' M := by
  unfold wp_MO_read
  repeat' with_reducible first | exact h_post _ _ | refine mn_wp_MO_allFaults (fun _ _ => ?_) | refine mn_wl_MO_read_18 (fun _ _ => ?_) _ _ _ | refine q_mb ?_ ?_ | refine q_ma (fun _ => ?_) | refine q_me (fun _ => ?_) | refine q_mi ?_ | exact id
theorem mn_wp_MO_place {post post' : Int32 → gMem → Prop} {M : gMem} (h_post : ∀ y0 y1, post y0 y1 → post' y0 y1) : wp_MO_place post M → wp_MO_place post' M := by
  unfold wp_MO_place
  repeat' with_reducible first | exact h_post _ _ | refine q_mb ?_ ?_ | refine q_ma (fun _ => ?_) | refine q_me (fun _ => ?_) | refine q_mi ?_ | exact id
theorem mn_wl_MO_keep_240 {post post' : gMem → Prop}  (h_post : ∀ y0, post y0 → post' y0) : ∀ (n : Nat) (z0 : Int32) (z1 : gMem), wl_MO_keep_240 post n z0 z1 → wl_MO_keep_240 post' n z0 z1 := by
  intro n
  induction n with
  | zero => intro z0 z1 h; exact h
  | succ n ih =>
    intro z0 z1
    unfold wl_MO_keep_240
    repeat' with_reducible first | exact h_post _ | exact ih _ _ | refine q_mb ?_ ?_ | refine q_ma (fun _ => ?_) | refine q_me (fun _ => ?_) | refine q_mi ?_ | exact id
theorem mn_wl_MO_keep_209 {post post' : gMem → Prop}  (h_post : ∀ y0, post y0 → post' y0) : ∀ (n : Nat) (z0 : Int32) (z1 : gMem), wl_MO_keep_209 post n z0 z1 → wl_MO_keep_209 post' n z0 z1 := by
  intro n
  induction n with
  | zero => intro z0 z1 h; exact h
  | succ n ih =>
    intro z0 z1
    unfold wl_MO_keep_209
    repeat' with_reducible first | exact h_post _ | exact ih _ _ | refine mn_wl_MO_keep_240 (fun _ => ?_) _ _ _ | refine q_mb ?_ ?_ | refine q_ma (fun _ => ?_) | refine q_me (fun _ => ?_) | refine q_mi ?_ | exact id
theorem mn_wl_MO_keep_105 {post post' : gMem → Prop}  (h_post : ∀ y0, post y0 → post' y0) : ∀ (n : Nat) (z0 : Int32) (z1 : gMem), wl_MO_keep_105 post n z0 z1 → wl_MO_keep_105 post' n z0 z1 := by
  intro n
  induction n with
  | zero => intro z0 z1 h; exact h
  | succ n ih =>
    intro z0 z1
    unfold wl_MO_keep_105
    repeat' with_reducible first | exact h_post _ | exact ih _ _ | refine mn_wl_MO_keep_209 (fun _ => ?_) _ _ _ | refine q_mb ?_ ?_ | refine q_ma (fun _ => ?_) | refine q_me (fun _ => ?_) | refine q_mi ?_ | exact id
theorem mn_wl_MO_keep_74 {post post' : gMem → Prop}  (h_post : ∀ y0, post y0 → post' y0) : ∀ (n : Nat) (z0 : Int32) (z1 : gMem), wl_MO_keep_74 post n z0 z1 → wl_MO_keep_74 post' n z0 z1 := by
  intro n
  induction n with
  | zero => intro z0 z1 h; exact h
  | succ n ih =>
    intro z0 z1
    unfold wl_MO_keep_74
    repeat' with_reducible first | exact h_post _ | exact ih _ _ | refine mn_wl_MO_keep_105 (fun _ => ?_) _ _ _ | refine q_mb ?_ ?_ | refine q_ma (fun _ => ?_) | refine q_me (fun _ => ?_) | refine q_mi ?_ | exact id
theorem mn_wl_MO_keep_33 {post post' : gMem → Prop}  (h_post : ∀ y0, post y0 → post' y0) : ∀ (n : Nat) (z0 : Int32) (z1 : gMem), wl_MO_keep_33 post n z0 z1 → wl_MO_keep_33 post' n z0 z1 := by
  intro n
  induction n with
  | zero => intro z0 z1 h; exact h
  | succ n ih =>
    intro z0 z1
    unfold wl_MO_keep_33
    repeat' with_reducible first | exact h_post _ | exact ih _ _ | refine mn_wl_MO_keep_74 (fun _ => ?_) _ _ _ | refine q_mb ?_ ?_ | refine q_ma (fun _ => ?_) | refine q_me (fun _ => ?_) | refine q_mi ?_ | exact id
theorem mn_wl_MO_keep_2 {post post' : gMem → Prop}  (h_post : ∀ y0, post y0 → post' y0) : ∀ (n : Nat) (z0 : Int32) (z1 : gMem), wl_MO_keep_2 post n z0 z1 → wl_MO_keep_2 post' n z0 z1 := by
  intro n
  induction n with
  | zero => intro z0 z1 h; exact h
  | succ n ih =>
    intro z0 z1
    unfold wl_MO_keep_2
    repeat' with_reducible first | exact h_post _ | exact ih _ _ | refine mn_wl_MO_keep_33 (fun _ => ?_) _ _ _ | refine q_mb ?_ ?_ | refine q_ma (fun _ => ?_) | refine q_me (fun _ => ?_) | refine q_mi ?_ | exact id
theorem mn_wp_MO_keep {post post' : gMem → Prop} {M : gMem} (h_post : ∀ y0, post y0 → post' y0) : wp_MO_keep post M → wp_MO_keep post' M := by
  unfold wp_MO_keep
  repeat' with_reducible first | exact h_post _ | refine mn_wl_MO_keep_2 (fun _ => ?_) _ _ _ | refine q_mb ?_ ?_ | refine q_ma (fun _ => ?_) | refine q_me (fun _ => ?_) | refine q_mi ?_ | exact id
theorem mn_wp_MO_section {post post' : Int32 → gMem → Prop} {a0 : Int32} {a1 : Int32} {M : gMem} (h_post : ∀ y0 y1, post y0 y1 → post' y0 y1) : wp_MO_section post a0 a1 M → wp_MO_section post' a0 a1 M := by
  unfold wp_MO_section
  repeat' with_reducible first | exact h_post _ _ | refine q_mb ?_ ?_ | refine q_ma (fun _ => ?_) | refine q_me (fun _ => ?_) | refine q_mi ?_ | exact id
theorem mn_wp_MO_at {post post' : Int32 → gMem → Prop} {a0 : Int32} {a1 : Int32} {M : gMem} (h_post : ∀ y0 y1, post y0 y1 → post' y0 y1) : wp_MO_at post a0 a1 M → wp_MO_at post' a0 a1 M := by
  unfold wp_MO_at
  repeat' with_reducible first | exact h_post _ _ | refine q_mb ?_ ?_ | refine q_ma (fun _ => ?_) | refine q_me (fun _ => ?_) | refine q_mi ?_ | exact id
theorem mn_wl_MO_count_4 {post post' : Int32 → gMem → Prop}  (h_post : ∀ y0 y1, post y0 y1 → post' y0 y1) : ∀ (n : Nat) (z0 : Int32) (z1 : Int32) (z2 : Int32) (z3 : gMem), wl_MO_count_4 post n z0 z1 z2 z3 → wl_MO_count_4 post' n z0 z1 z2 z3 := by
  intro n
  induction n with
  | zero => intro z0 z1 z2 z3 h; exact h
  | succ n ih =>
    intro z0 z1 z2 z3
    unfold wl_MO_count_4
    repeat' with_reducible first | exact h_post _ _ | exact ih _ _ _ _ | refine mn_wp_MO_isShort (fun _ _ => ?_) | refine q_mb ?_ ?_ | refine q_ma (fun _ => ?_) | refine q_me (fun _ => ?_) | refine q_mi ?_ | exact id
theorem mn_wp_MO_count {post post' : Int32 → gMem → Prop} {a0 : Int32} {M : gMem} (h_post : ∀ y0 y1, post y0 y1 → post' y0 y1) : wp_MO_count post a0 M → wp_MO_count post' a0 M := by
  unfold wp_MO_count
  repeat' with_reducible first | exact h_post _ _ | refine mn_wl_MO_count_4 (fun _ _ => ?_) _ _ _ _ _ | refine q_mb ?_ ?_ | refine q_ma (fun _ => ?_) | refine q_me (fun _ => ?_) | refine q_mi ?_ | exact id
theorem mn_wp_MO_startAt {post post' : Int32 → gMem → Prop} {a0 : Int32} {M : gMem} (h_post : ∀ y0 y1, post y0 y1 → post' y0 y1) : wp_MO_startAt post a0 M → wp_MO_startAt post' a0 M := by
  unfold wp_MO_startAt
  repeat' with_reducible first | exact h_post _ _ | refine q_mb ?_ ?_ | refine q_ma (fun _ => ?_) | refine q_me (fun _ => ?_) | refine q_mi ?_ | exact id
theorem mn_wp_MO_symbolAt {post post' : Int32 → gMem → Prop} {a0 : Int32} {a1 : Int32} {M : gMem} (h_post : ∀ y0 y1, post y0 y1 → post' y0 y1) : wp_MO_symbolAt post a0 a1 M → wp_MO_symbolAt post' a0 a1 M := by
  unfold wp_MO_symbolAt
  repeat' with_reducible first | exact h_post _ _ | refine q_mb ?_ ?_ | refine q_ma (fun _ => ?_) | refine q_me (fun _ => ?_) | refine q_mi ?_ | exact id
theorem mn_wp_MO_relocationAt {post post' : Int32 → gMem → Prop} {a0 : Int32} {a1 : Int32} {M : gMem} (h_post : ∀ y0 y1, post y0 y1 → post' y0 y1) : wp_MO_relocationAt post a0 a1 M → wp_MO_relocationAt post' a0 a1 M := by
  unfold wp_MO_relocationAt
  repeat' with_reducible first | exact h_post _ _ | refine q_mb ?_ ?_ | refine q_ma (fun _ => ?_) | refine q_me (fun _ => ?_) | refine q_mi ?_ | exact id
theorem mn_wl_AR_fill1_3_5 {post post' : gMem → Prop}  (h_post : ∀ y0, post y0 → post' y0) : ∀ (n : Nat) (z0 : Int32) (z1 : Int32) (z2 : Int32) (z3 : gMem), wl_AR_fill1_3_5 post n z0 z1 z2 z3 → wl_AR_fill1_3_5 post' n z0 z1 z2 z3 := by
  intro n
  induction n with
  | zero => intro z0 z1 z2 z3 h; exact h
  | succ n ih =>
    intro z0 z1 z2 z3
    unfold wl_AR_fill1_3_5
    repeat' with_reducible first | exact h_post _ | exact ih _ _ _ _ | refine q_mb ?_ ?_ | refine q_ma (fun _ => ?_) | refine q_me (fun _ => ?_) | refine q_mi ?_ | exact id
theorem mn_wp_AR_fill1_3 {post post' : gMem → Prop} {a1 : Int32} {M : gMem} (h_post : ∀ y0, post y0 → post' y0) : wp_AR_fill1_3 post a1 M → wp_AR_fill1_3 post' a1 M := by
  unfold wp_AR_fill1_3
  repeat' with_reducible first | exact h_post _ | refine mn_wl_AR_fill1_3_5 (fun _ => ?_) _ _ _ _ _ | refine q_mb ?_ ?_ | refine q_ma (fun _ => ?_) | refine q_me (fun _ => ?_) | refine q_mi ?_ | exact id
theorem mn_wl_AR_fill1_4_5 {post post' : gMem → Prop}  (h_post : ∀ y0, post y0 → post' y0) : ∀ (n : Nat) (z0 : Int32) (z1 : Int32) (z2 : Int32) (z3 : gMem), wl_AR_fill1_4_5 post n z0 z1 z2 z3 → wl_AR_fill1_4_5 post' n z0 z1 z2 z3 := by
  intro n
  induction n with
  | zero => intro z0 z1 z2 z3 h; exact h
  | succ n ih =>
    intro z0 z1 z2 z3
    unfold wl_AR_fill1_4_5
    repeat' with_reducible first | exact h_post _ | exact ih _ _ _ _ | refine q_mb ?_ ?_ | refine q_ma (fun _ => ?_) | refine q_me (fun _ => ?_) | refine q_mi ?_ | exact id
theorem mn_wp_AR_fill1_4 {post post' : gMem → Prop} {a1 : Int32} {M : gMem} (h_post : ∀ y0, post y0 → post' y0) : wp_AR_fill1_4 post a1 M → wp_AR_fill1_4 post' a1 M := by
  unfold wp_AR_fill1_4
  repeat' with_reducible first | exact h_post _ | refine mn_wl_AR_fill1_4_5 (fun _ => ?_) _ _ _ _ _ | refine q_mb ?_ ?_ | refine q_ma (fun _ => ?_) | refine q_me (fun _ => ?_) | refine q_mi ?_ | exact id
theorem mn_wp_CT_reset_m {post post' : gMem → Prop} {M : gMem} (h_post : ∀ y0, post y0 → post' y0) : wp_CT_reset_m post M → wp_CT_reset_m post' M := by
  unfold wp_CT_reset_m
  repeat' with_reducible first | exact h_post _ | refine mn_wp_AR_fill1_3 (fun _ => ?_) | refine mn_wp_AR_fill1_4 (fun _ => ?_) | refine q_mb ?_ ?_ | refine q_ma (fun _ => ?_) | refine q_me (fun _ => ?_) | refine q_mi ?_ | exact id
theorem mn_wp_OF_clear {post post' : gMem → Prop} {M : gMem} (h_post : ∀ y0, post y0 → post' y0) : wp_OF_clear post M → wp_OF_clear post' M := by
  unfold wp_OF_clear
  repeat' with_reducible first | exact h_post _ | refine mn_wp_CT_reset_m (fun _ => ?_) | refine q_mb ?_ ?_ | refine q_ma (fun _ => ?_) | refine q_me (fun _ => ?_) | refine q_mi ?_ | exact id
theorem mn_wl_CT_append_m_39 {post post' : Bool → gMem → Prop}  (h_post : ∀ y0 y1, post y0 y1 → post' y0 y1) : ∀ (n : Nat) (z0 : Int32) (z1 : Int32) (z2 : Int64) (z3 : Int32) (z4 : gMem), wl_CT_append_m_39 post n z0 z1 z2 z3 z4 → wl_CT_append_m_39 post' n z0 z1 z2 z3 z4 := by
  intro n
  induction n with
  | zero => intro z0 z1 z2 z3 z4 h; exact h
  | succ n ih =>
    intro z0 z1 z2 z3 z4
    unfold wl_CT_append_m_39
    repeat' with_reducible first | exact h_post _ _ | exact ih _ _ _ _ _ | refine q_mb ?_ ?_ | refine q_ma (fun _ => ?_) | refine q_me (fun _ => ?_) | refine q_mi ?_ | exact id
theorem mn_wp_CT_append_m {post post' : Bool → gMem → Prop} {a0 : Int32} {a1 : Int32} {a2 : Int64} {M : gMem} (h_post : ∀ y0 y1, post y0 y1 → post' y0 y1) : wp_CT_append_m post a0 a1 a2 M → wp_CT_append_m post' a0 a1 a2 M := by
  unfold wp_CT_append_m
  repeat' with_reducible first | exact h_post _ _ | refine mn_wl_CT_append_m_39 (fun _ _ => ?_) _ _ _ _ _ _ | refine q_mb ?_ ?_ | refine q_ma (fun _ => ?_) | refine q_me (fun _ => ?_) | refine q_mi ?_ | exact id
theorem mn_wp_OF_put {post post' : Bool → gMem → Prop} {a0 : Int32} {a1 : Int32} {a2 : Int64} {M : gMem} (h_post : ∀ y0 y1, post y0 y1 → post' y0 y1) : wp_OF_put post a0 a1 a2 M → wp_OF_put post' a0 a1 a2 M := by
  unfold wp_OF_put
  repeat' with_reducible first | exact h_post _ _ | refine mn_wp_CT_append_m (fun _ _ => ?_) | refine q_mb ?_ ?_ | refine q_ma (fun _ => ?_) | refine q_me (fun _ => ?_) | refine q_mi ?_ | exact id
theorem mn_wp_OF_bss {post post' : Bool → gMem → Prop} {a0 : Int32} {M : gMem} (h_post : ∀ y0 y1, post y0 y1 → post' y0 y1) : wp_OF_bss post a0 M → wp_OF_bss post' a0 M := by
  unfold wp_OF_bss
  repeat' with_reducible first | exact h_post _ _ | refine q_mb ?_ ?_ | refine q_ma (fun _ => ?_) | refine q_me (fun _ => ?_) | refine q_mi ?_ | exact id
theorem mn_wp_OF_align {post post' : Bool → gMem → Prop} {a0 : Int32} {a1 : Int32} {M : gMem} (h_post : ∀ y0 y1, post y0 y1 → post' y0 y1) : wp_OF_align post a0 a1 M → wp_OF_align post' a0 a1 M := by
  unfold wp_OF_align
  repeat' with_reducible first | exact h_post _ _ | refine q_mb ?_ ?_ | refine q_ma (fun _ => ?_) | refine q_me (fun _ => ?_) | refine q_mi ?_ | exact id
theorem mn_wp_CT_startOf_m {post post' : Int32 → gMem → Prop} {a0 : Int32} {M : gMem} (h_post : ∀ y0 y1, post y0 y1 → post' y0 y1) : wp_CT_startOf_m post a0 M → wp_CT_startOf_m post' a0 M := by
  unfold wp_CT_startOf_m
  repeat' with_reducible first | exact h_post _ _ | refine q_mb ?_ ?_ | refine q_ma (fun _ => ?_) | refine q_me (fun _ => ?_) | refine q_mi ?_ | exact id
theorem mn_wp_CT_latestStart_m {post post' : Int32 → gMem → Prop} {M : gMem} (h_post : ∀ y0 y1, post y0 y1 → post' y0 y1) : wp_CT_latestStart_m post M → wp_CT_latestStart_m post' M := by
  unfold wp_CT_latestStart_m
  repeat' with_reducible first | exact h_post _ _ | refine mn_wp_CT_startOf_m (fun _ _ => ?_) | refine q_mb ?_ ?_ | refine q_ma (fun _ => ?_) | refine q_me (fun _ => ?_) | refine q_mi ?_ | exact id
theorem mn_wp_CT_addStart_m {post post' : Bool → gMem → Prop} {a0 : Int32} {M : gMem} (h_post : ∀ y0 y1, post y0 y1 → post' y0 y1) : wp_CT_addStart_m post a0 M → wp_CT_addStart_m post' a0 M := by
  unfold wp_CT_addStart_m
  repeat' with_reducible first | exact h_post _ _ | refine q_mb ?_ ?_ | refine q_ma (fun _ => ?_) | refine q_me (fun _ => ?_) | refine q_mi ?_ | exact id
theorem mn_wp_OF_start {post post' : Bool → gMem → Prop} {a0 : Int32} {M : gMem} (h_post : ∀ y0 y1, post y0 y1 → post' y0 y1) : wp_OF_start post a0 M → wp_OF_start post' a0 M := by
  unfold wp_OF_start
  repeat' with_reducible first | exact h_post _ _ | refine mn_wp_CT_latestStart_m (fun _ _ => ?_) | refine mn_wp_CT_addStart_m (fun _ _ => ?_) | refine q_mb ?_ ?_ | refine q_ma (fun _ => ?_) | refine q_me (fun _ => ?_) | refine q_mi ?_ | exact id
theorem mn_wp_OF_isNameCharacter {post post' : Bool → gMem → Prop} {a0 : Int32} {M : gMem} (h_post : ∀ y0 y1, post y0 y1 → post' y0 y1) : wp_OF_isNameCharacter post a0 M → wp_OF_isNameCharacter post' a0 M := by
  unfold wp_OF_isNameCharacter
  repeat' with_reducible first | exact h_post _ _ | refine q_mb ?_ ?_ | refine q_ma (fun _ => ?_) | refine q_me (fun _ => ?_) | refine q_mi ?_ | exact id
theorem mn_wp_OF_letter {post post' : Bool → gMem → Prop} {a0 : Int32} {M : gMem} (h_post : ∀ y0 y1, post y0 y1 → post' y0 y1) : wp_OF_letter post a0 M → wp_OF_letter post' a0 M := by
  unfold wp_OF_letter
  repeat' with_reducible first | exact h_post _ _ | refine mn_wp_OF_isNameCharacter (fun _ _ => ?_) | refine q_mb ?_ ?_ | refine q_ma (fun _ => ?_) | refine q_me (fun _ => ?_) | refine q_mi ?_ | exact id
theorem mn_wp_OF_isBindOrType {post post' : Bool → gMem → Prop} {a0 : Int32} {M : gMem} (h_post : ∀ y0 y1, post y0 y1 → post' y0 y1) : wp_OF_isBindOrType post a0 M → wp_OF_isBindOrType post' a0 M := by
  unfold wp_OF_isBindOrType
  repeat' with_reducible first | exact h_post _ _ | refine q_mb ?_ ?_ | refine q_ma (fun _ => ?_) | refine q_me (fun _ => ?_) | refine q_mi ?_ | exact id
theorem mn_wp_OF_firstFlaw {post post' : Int32 → gMem → Prop} {a0 : Int32} {a1 : Int32} {a2 : Int32} {M : gMem} (h_post : ∀ y0 y1, post y0 y1 → post' y0 y1) : wp_OF_firstFlaw post a0 a1 a2 M → wp_OF_firstFlaw post' a0 a1 a2 M := by
  unfold wp_OF_firstFlaw
  repeat' with_reducible first | exact h_post _ _ | refine q_mb ?_ ?_ | refine q_ma (fun _ => ?_) | refine q_me (fun _ => ?_) | refine q_mi ?_ | exact id
theorem mn_wp_OF_isAlignment {post post' : Bool → gMem → Prop} {a0 : Int64} {M : gMem} (h_post : ∀ y0 y1, post y0 y1 → post' y0 y1) : wp_OF_isAlignment post a0 M → wp_OF_isAlignment post' a0 M := by
  unfold wp_OF_isAlignment
  repeat' with_reducible first | exact h_post _ _ | refine q_mb ?_ ?_ | refine q_ma (fun _ => ?_) | refine q_me (fun _ => ?_) | refine q_mi ?_ | exact id
theorem mn_wj_OF_flawOf_54 {post post' : Int32 → gMem → Prop} {v3 : Int32} {s0 : Int32} {s1 : Int32} {M : gMem} (h_post : ∀ y0 y1, post y0 y1 → post' y0 y1) : wj_OF_flawOf_54 post v3 s0 s1 M → wj_OF_flawOf_54 post' v3 s0 s1 M := by
  unfold wj_OF_flawOf_54
  repeat' with_reducible first | exact h_post _ _ | refine mn_wp_OF_firstFlaw (fun _ _ => ?_) | refine q_mb ?_ ?_ | refine q_ma (fun _ => ?_) | refine q_me (fun _ => ?_) | refine q_mi ?_ | exact id
theorem mn_wj_OF_flawOf_45 {post post' : Int32 → gMem → Prop} {v2 : Int32} {v3 : Int32} {s0 : Int32} {M : gMem} (h_post : ∀ y0 y1, post y0 y1 → post' y0 y1) : wj_OF_flawOf_45 post v2 v3 s0 M → wj_OF_flawOf_45 post' v2 v3 s0 M := by
  unfold wj_OF_flawOf_45
  repeat' with_reducible first | exact h_post _ _ | refine mn_wj_OF_flawOf_54 (fun _ _ => ?_) | refine q_mb ?_ ?_ | refine q_ma (fun _ => ?_) | refine q_me (fun _ => ?_) | refine q_mi ?_ | exact id
theorem mn_wj_OF_flawOf_104 {post post' : Int32 → gMem → Prop} {v3 : Int32} {s0 : Int32} {s1 : Int32} {M : gMem} (h_post : ∀ y0 y1, post y0 y1 → post' y0 y1) : wj_OF_flawOf_104 post v3 s0 s1 M → wj_OF_flawOf_104 post' v3 s0 s1 M := by
  unfold wj_OF_flawOf_104
  repeat' with_reducible first | exact h_post _ _ | refine mn_wp_OF_firstFlaw (fun _ _ => ?_) | refine q_mb ?_ ?_ | refine q_ma (fun _ => ?_) | refine q_me (fun _ => ?_) | refine q_mi ?_ | exact id
theorem mn_wj_OF_flawOf_103 {post post' : Int32 → gMem → Prop} {v3 : Int32} {s0 : Int32} {M : gMem} (h_post : ∀ y0 y1, post y0 y1 → post' y0 y1) : wj_OF_flawOf_103 post v3 s0 M → wj_OF_flawOf_103 post' v3 s0 M := by
  unfold wj_OF_flawOf_103
  repeat' with_reducible first | exact h_post _ _ | refine mn_wj_OF_flawOf_104 (fun _ _ => ?_) | refine q_mb ?_ ?_ | refine q_ma (fun _ => ?_) | refine q_me (fun _ => ?_) | refine q_mi ?_ | exact id
theorem mn_wj_OF_flawOf_135 {post post' : Int32 → gMem → Prop} {v1 : Int32} {v2 : Int32} {v4 : Int64} {s0 : Int32} {M : gMem} (h_post : ∀ y0 y1, post y0 y1 → post' y0 y1) : wj_OF_flawOf_135 post v1 v2 v4 s0 M → wj_OF_flawOf_135 post' v1 v2 v4 s0 M := by
  unfold wj_OF_flawOf_135
  repeat' with_reducible first | exact h_post _ _ | refine mn_wp_OF_firstFlaw (fun _ _ => ?_) | refine q_mb ?_ ?_ | refine q_ma (fun _ => ?_) | refine q_me (fun _ => ?_) | refine q_mi ?_ | exact id
theorem mn_wj_OF_flawOf_134 {post post' : Int32 → gMem → Prop} {v1 : Int32} {v2 : Int32} {v4 : Int64} {M : gMem} (h_post : ∀ y0 y1, post y0 y1 → post' y0 y1) : wj_OF_flawOf_134 post v1 v2 v4 M → wj_OF_flawOf_134 post' v1 v2 v4 M := by
  unfold wj_OF_flawOf_134
  repeat' with_reducible first | exact h_post _ _ | refine mn_wj_OF_flawOf_135 (fun _ _ => ?_) | refine q_mb ?_ ?_ | refine q_ma (fun _ => ?_) | refine q_me (fun _ => ?_) | refine q_mi ?_ | exact id
theorem mn_wp_OF_flawOf {post post' : Int32 → gMem → Prop} {a0 : Int32} {a1 : Int32} {a2 : Int32} {a3 : Int32} {a4 : Int64} {M : gMem} (h_post : ∀ y0 y1, post y0 y1 → post' y0 y1) : wp_OF_flawOf post a0 a1 a2 a3 a4 M → wp_OF_flawOf post' a0 a1 a2 a3 a4 M := by
  unfold wp_OF_flawOf
  repeat' with_reducible first | exact h_post _ _ | refine mn_wj_OF_flawOf_45 (fun _ _ => ?_) | refine mn_wp_OF_firstFlaw (fun _ _ => ?_) | refine mn_wp_OF_isAlignment (fun _ _ => ?_) | refine mn_wj_OF_flawOf_103 (fun _ _ => ?_) | refine mn_wj_OF_flawOf_104 (fun _ _ => ?_) | refine mn_wj_OF_flawOf_134 (fun _ _ => ?_) | refine mn_wj_OF_flawOf_135 (fun _ _ => ?_) | refine q_mb ?_ ?_ | refine q_ma (fun _ => ?_) | refine q_me (fun _ => ?_) | refine q_mi ?_ | exact id
theorem mn_wp_CT_addSymbol_m_40 {post post' : Int32 → gMem → Prop} {a1 : Int32} {a2 : Int32} {M : gMem} (h_post : ∀ y0 y1, post y0 y1 → post' y0 y1) : wp_CT_addSymbol_m_40 post a1 a2 M → wp_CT_addSymbol_m_40 post' a1 a2 M := by
  unfold wp_CT_addSymbol_m_40
  repeat' with_reducible first | exact h_post _ _ | refine q_mb ?_ ?_ | refine q_ma (fun _ => ?_) | refine q_me (fun _ => ?_) | refine q_mi ?_ | exact id
theorem mn_wp_CT_tellSymbol_m {post post' : gMem → Prop} {a0 : Int32} {a1 : Int32} {a2 : Int32} {a3 : Int32} {a4 : Int32} {a5 : Int32} {M : gMem} (h_post : ∀ y0, post y0 → post' y0) : wp_CT_tellSymbol_m post a0 a1 a2 a3 a4 a5 M → wp_CT_tellSymbol_m post' a0 a1 a2 a3 a4 a5 M := by
  unfold wp_CT_tellSymbol_m
  repeat' with_reducible first | exact h_post _ | refine q_mb ?_ ?_ | refine q_ma (fun _ => ?_) | refine q_me (fun _ => ?_) | refine q_mi ?_ | exact id
theorem mn_wp_CT_symbolFact_m {post post' : Int32 → gMem → Prop} {a0 : Int32} {a1 : Int32} {M : gMem} (h_post : ∀ y0 y1, post y0 y1 → post' y0 y1) : wp_CT_symbolFact_m post a0 a1 M → wp_CT_symbolFact_m post' a0 a1 M := by
  unfold wp_CT_symbolFact_m
  repeat' with_reducible first | exact h_post _ _ | refine q_mb ?_ ?_ | refine q_ma (fun _ => ?_) | refine q_me (fun _ => ?_) | refine q_mi ?_ | exact id
theorem mn_wp_CT_nameCharacter_m {post post' : Int32 → gMem → Prop} {a0 : Int32} {a1 : Int32} {M : gMem} (h_post : ∀ y0 y1, post y0 y1 → post' y0 y1) : wp_CT_nameCharacter_m post a0 a1 M → wp_CT_nameCharacter_m post' a0 a1 M := by
  unfold wp_CT_nameCharacter_m
  repeat' with_reducible first | exact h_post _ _ | refine mn_wp_CT_symbolFact_m (fun _ _ => ?_) | refine q_mb ?_ ?_ | refine q_ma (fun _ => ?_) | refine q_me (fun _ => ?_) | refine q_mi ?_ | exact id
theorem mn_wl_CT_hasName_m_40_21 {post post' : Bool → gMem → Prop}  (h_post : ∀ y0 y1, post y0 y1 → post' y0 y1) : ∀ (n : Nat) (z0 : Int32) (z1 : Int32) (z2 : Int32) (z3 : gMem), wl_CT_hasName_m_40_21 post n z0 z1 z2 z3 → wl_CT_hasName_m_40_21 post' n z0 z1 z2 z3 := by
  intro n
  induction n with
  | zero => intro z0 z1 z2 z3 h; exact h
  | succ n ih =>
    intro z0 z1 z2 z3
    unfold wl_CT_hasName_m_40_21
    repeat' with_reducible first | exact h_post _ _ | exact ih _ _ _ _ | refine mn_wp_CT_nameCharacter_m (fun _ _ => ?_) | refine q_mb ?_ ?_ | refine q_ma (fun _ => ?_) | refine q_me (fun _ => ?_) | refine q_mi ?_ | exact id
theorem mn_wp_CT_hasName_m_40 {post post' : Bool → gMem → Prop} {a0 : Int32} {a2 : Int32} {M : gMem} (h_post : ∀ y0 y1, post y0 y1 → post' y0 y1) : wp_CT_hasName_m_40 post a0 a2 M → wp_CT_hasName_m_40 post' a0 a2 M := by
  unfold wp_CT_hasName_m_40
  repeat' with_reducible first | exact h_post _ _ | refine mn_wp_CT_symbolFact_m (fun _ _ => ?_) | refine mn_wl_CT_hasName_m_40_21 (fun _ _ => ?_) _ _ _ _ _ | refine q_mb ?_ ?_ | refine q_ma (fun _ => ?_) | refine q_me (fun _ => ?_) | refine q_mi ?_ | exact id
theorem mn_wl_CT_hasGlobal_m_40_2 {post post' : Bool → gMem → Prop}  (h_post : ∀ y0 y1, post y0 y1 → post' y0 y1) : ∀ (n : Nat) (z0 : Int32) (z1 : Int32) (z2 : gMem), wl_CT_hasGlobal_m_40_2 post n z0 z1 z2 → wl_CT_hasGlobal_m_40_2 post' n z0 z1 z2 := by
  intro n
  induction n with
  | zero => intro z0 z1 z2 h; exact h
  | succ n ih =>
    intro z0 z1 z2
    unfold wl_CT_hasGlobal_m_40_2
    repeat' with_reducible first | exact h_post _ _ | exact ih _ _ _ | refine mn_wp_CT_symbolFact_m (fun _ _ => ?_) | refine mn_wp_CT_hasName_m_40 (fun _ _ => ?_) | refine q_mb ?_ ?_ | refine q_ma (fun _ => ?_) | refine q_me (fun _ => ?_) | refine q_mi ?_ | exact id
theorem mn_wp_CT_hasGlobal_m_40 {post post' : Bool → gMem → Prop} {a1 : Int32} {M : gMem} (h_post : ∀ y0 y1, post y0 y1 → post' y0 y1) : wp_CT_hasGlobal_m_40 post a1 M → wp_CT_hasGlobal_m_40 post' a1 M := by
  unfold wp_CT_hasGlobal_m_40
  repeat' with_reducible first | exact h_post _ _ | refine mn_wl_CT_hasGlobal_m_40_2 (fun _ _ => ?_) _ _ _ _ | refine q_mb ?_ ?_ | refine q_ma (fun _ => ?_) | refine q_me (fun _ => ?_) | refine q_mi ?_ | exact id
theorem mn_wj_OF_symbol_84 {post post' : Int32 → gMem → Prop} {v1 : Int32} {v2 : Int32} {v3 : Int32} {v4 : Int32} {v5 : Int32} {v6 : Int32} {M : gMem} (h_post : ∀ y0 y1, post y0 y1 → post' y0 y1) : wj_OF_symbol_84 post v1 v2 v3 v4 v5 v6 M → wj_OF_symbol_84 post' v1 v2 v3 v4 v5 v6 M := by
  unfold wj_OF_symbol_84
  repeat' with_reducible first | exact h_post _ _ | refine mn_wp_CT_addSymbol_m_40 (fun _ _ => ?_) | refine mn_wp_CT_tellSymbol_m (fun _ => ?_) | refine q_mb ?_ ?_ | refine q_ma (fun _ => ?_) | refine q_me (fun _ => ?_) | refine q_mi ?_ | exact id
theorem mn_wp_OF_symbol {post post' : Int32 → gMem → Prop} {a0 : Int32} {a1 : Int32} {a2 : Int32} {a3 : Int32} {a4 : Int32} {M : gMem} (h_post : ∀ y0 y1, post y0 y1 → post' y0 y1) : wp_OF_symbol post a0 a1 a2 a3 a4 M → wp_OF_symbol post' a0 a1 a2 a3 a4 M := by
  unfold wp_OF_symbol
  repeat' with_reducible first | exact h_post _ _ | refine mn_wp_OF_isBindOrType (fun _ _ => ?_) | refine mn_wp_OF_flawOf (fun _ _ => ?_) | refine mn_wj_OF_symbol_84 (fun _ _ => ?_) | refine mn_wp_CT_hasGlobal_m_40 (fun _ _ => ?_) | refine q_mb ?_ ?_ | refine q_ma (fun _ => ?_) | refine q_me (fun _ => ?_) | refine q_mi ?_ | exact id
theorem mn_wp_OF_widthOf {post post' : Int32 → gMem → Prop} {a0 : Int32} {a1 : Int32} {M : gMem} (h_post : ∀ y0 y1, post y0 y1 → post' y0 y1) : wp_OF_widthOf post a0 a1 M → wp_OF_widthOf post' a0 a1 M := by
  unfold wp_OF_widthOf
  repeat' with_reducible first | exact h_post _ _ | refine q_mb ?_ ?_ | refine q_ma (fun _ => ?_) | refine q_me (fun _ => ?_) | refine q_mi ?_ | exact id
theorem mn_wp_OF_kindMayBeIn {post post' : Bool → gMem → Prop} {a0 : Int32} {a1 : Int32} {M : gMem} (h_post : ∀ y0 y1, post y0 y1 → post' y0 y1) : wp_OF_kindMayBeIn post a0 a1 M → wp_OF_kindMayBeIn post' a0 a1 M := by
  unfold wp_OF_kindMayBeIn
  repeat' with_reducible first | exact h_post _ _ | refine mn_wp_OF_widthOf (fun _ _ => ?_) | refine q_mb ?_ ?_ | refine q_ma (fun _ => ?_) | refine q_me (fun _ => ?_) | refine q_mi ?_ | exact id
theorem mn_wp_OF_addendMayBe {post post' : Bool → gMem → Prop} {a0 : Int32} {a1 : Int32} {M : gMem} (h_post : ∀ y0 y1, post y0 y1 → post' y0 y1) : wp_OF_addendMayBe post a0 a1 M → wp_OF_addendMayBe post' a0 a1 M := by
  unfold wp_OF_addendMayBe
  repeat' with_reducible first | exact h_post _ _ | refine q_mb ?_ ?_ | refine q_ma (fun _ => ?_) | refine q_me (fun _ => ?_) | refine q_mi ?_ | exact id
theorem mn_wp_OF_hasSymbol {post post' : Bool → gMem → Prop} {a0 : Int32} {M : gMem} (h_post : ∀ y0 y1, post y0 y1 → post' y0 y1) : wp_OF_hasSymbol post a0 M → wp_OF_hasSymbol post' a0 M := by
  unfold wp_OF_hasSymbol
  repeat' with_reducible first | exact h_post _ _ | refine q_mb ?_ ?_ | refine q_ma (fun _ => ?_) | refine q_me (fun _ => ?_) | refine q_mi ?_ | exact id
theorem mn_wp_CT_addRelocation_m {post post' : Int32 → gMem → Prop} {a0 : Int32} {a1 : Int32} {a2 : Int32} {a3 : Int32} {a4 : Int32} {M : gMem} (h_post : ∀ y0 y1, post y0 y1 → post' y0 y1) : wp_CT_addRelocation_m post a0 a1 a2 a3 a4 M → wp_CT_addRelocation_m post' a0 a1 a2 a3 a4 M := by
  unfold wp_CT_addRelocation_m
  repeat' with_reducible first | exact h_post _ _ | refine q_mb ?_ ?_ | refine q_ma (fun _ => ?_) | refine q_me (fun _ => ?_) | refine q_mi ?_ | exact id
theorem mn_wj_OF_relocation_56 {post post' : Int32 → gMem → Prop} {v1 : Int32} {v2 : Int32} {v3 : Int32} {v4 : Int32} {v5 : Int32} {s0 : Int32} {s1 : Int32} {M : gMem} (h_post : ∀ y0 y1, post y0 y1 → post' y0 y1) : wj_OF_relocation_56 post v1 v2 v3 v4 v5 s0 s1 M → wj_OF_relocation_56 post' v1 v2 v3 v4 v5 s0 s1 M := by
  unfold wj_OF_relocation_56
  repeat' with_reducible first | exact h_post _ _ | refine mn_wp_CT_addRelocation_m (fun _ _ => ?_) | refine q_mb ?_ ?_ | refine q_ma (fun _ => ?_) | refine q_me (fun _ => ?_) | refine q_mi ?_ | exact id
theorem mn_wp_OF_relocation {post post' : Int32 → gMem → Prop} {a0 : Int32} {a1 : Int32} {a2 : Int32} {a3 : Int32} {a4 : Int32} {M : gMem} (h_post : ∀ y0 y1, post y0 y1 → post' y0 y1) : wp_OF_relocation post a0 a1 a2 a3 a4 M → wp_OF_relocation post' a0 a1 a2 a3 a4 M := by
  unfold wp_OF_relocation
  repeat' with_reducible first | exact h_post _ _ | refine mn_wp_OF_kindMayBeIn (fun _ _ => ?_) | refine mn_wp_OF_addendMayBe (fun _ _ => ?_) | refine mn_wp_OF_hasSymbol (fun _ _ => ?_) | refine mn_wj_OF_relocation_56 (fun _ _ => ?_) | refine q_mb ?_ ?_ | refine q_ma (fun _ => ?_) | refine q_me (fun _ => ?_) | refine q_mi ?_ | exact id
theorem mn_wp_CT_startGoesBeyond_m {post post' : Bool → gMem → Prop} {M : gMem} (h_post : ∀ y0 y1, post y0 y1 → post' y0 y1) : wp_CT_startGoesBeyond_m post M → wp_CT_startGoesBeyond_m post' M := by
  unfold wp_CT_startGoesBeyond_m
  repeat' with_reducible first | exact h_post _ _ | refine mn_wp_CT_latestStart_m (fun _ _ => ?_) | refine q_mb ?_ ?_ | refine q_ma (fun _ => ?_) | refine q_me (fun _ => ?_) | refine q_mi ?_ | exact id
theorem mn_wl_CT_symbolGoesBeyond_m_2 {post post' : Bool → gMem → Prop}  (h_post : ∀ y0 y1, post y0 y1 → post' y0 y1) : ∀ (n : Nat) (z0 : Int32) (z1 : gMem), wl_CT_symbolGoesBeyond_m_2 post n z0 z1 → wl_CT_symbolGoesBeyond_m_2 post' n z0 z1 := by
  intro n
  induction n with
  | zero => intro z0 z1 h; exact h
  | succ n ih =>
    intro z0 z1
    unfold wl_CT_symbolGoesBeyond_m_2
    repeat' with_reducible first | exact h_post _ _ | exact ih _ _ | refine mn_wp_CT_symbolFact_m (fun _ _ => ?_) | refine q_mb ?_ ?_ | refine q_ma (fun _ => ?_) | refine q_me (fun _ => ?_) | refine q_mi ?_ | exact id
theorem mn_wp_CT_symbolGoesBeyond_m {post post' : Bool → gMem → Prop} {M : gMem} (h_post : ∀ y0 y1, post y0 y1 → post' y0 y1) : wp_CT_symbolGoesBeyond_m post M → wp_CT_symbolGoesBeyond_m post' M := by
  unfold wp_CT_symbolGoesBeyond_m
  repeat' with_reducible first | exact h_post _ _ | refine mn_wl_CT_symbolGoesBeyond_m_2 (fun _ _ => ?_) _ _ _ | refine q_mb ?_ ?_ | refine q_ma (fun _ => ?_) | refine q_me (fun _ => ?_) | refine q_mi ?_ | exact id
theorem mn_wp_CT_relocationFact_m {post post' : Int32 → gMem → Prop} {a0 : Int32} {a1 : Int32} {M : gMem} (h_post : ∀ y0 y1, post y0 y1 → post' y0 y1) : wp_CT_relocationFact_m post a0 a1 M → wp_CT_relocationFact_m post' a0 a1 M := by
  unfold wp_CT_relocationFact_m
  repeat' with_reducible first | exact h_post _ _ | refine q_mb ?_ ?_ | refine q_ma (fun _ => ?_) | refine q_me (fun _ => ?_) | refine q_mi ?_ | exact id
theorem mn_wl_CT_relocationGoesBeyond_m_2 {post post' : Bool → gMem → Prop}  (h_post : ∀ y0 y1, post y0 y1 → post' y0 y1) : ∀ (n : Nat) (z0 : Int32) (z1 : gMem), wl_CT_relocationGoesBeyond_m_2 post n z0 z1 → wl_CT_relocationGoesBeyond_m_2 post' n z0 z1 := by
  intro n
  induction n with
  | zero => intro z0 z1 h; exact h
  | succ n ih =>
    intro z0 z1
    unfold wl_CT_relocationGoesBeyond_m_2
    repeat' with_reducible first | exact h_post _ _ | exact ih _ _ | refine mn_wp_CT_relocationFact_m (fun _ _ => ?_) | refine mn_wp_OF_widthOf (fun _ _ => ?_) | refine q_mb ?_ ?_ | refine q_ma (fun _ => ?_) | refine q_me (fun _ => ?_) | refine q_mi ?_ | exact id
theorem mn_wp_CT_relocationGoesBeyond_m {post post' : Bool → gMem → Prop} {M : gMem} (h_post : ∀ y0 y1, post y0 y1 → post' y0 y1) : wp_CT_relocationGoesBeyond_m post M → wp_CT_relocationGoesBeyond_m post' M := by
  unfold wp_CT_relocationGoesBeyond_m
  repeat' with_reducible first | exact h_post _ _ | refine mn_wl_CT_relocationGoesBeyond_m_2 (fun _ _ => ?_) _ _ _ | refine q_mb ?_ ?_ | refine q_ma (fun _ => ?_) | refine q_me (fun _ => ?_) | refine q_mi ?_ | exact id
theorem mn_wp_WR_giveTurn {post post' : gMem → Prop} {a0 : Int32} {a1 : Int32} {M : gMem} (h_post : ∀ y0, post y0 → post' y0) : wp_WR_giveTurn post a0 a1 M → wp_WR_giveTurn post' a0 a1 M := by
  unfold wp_WR_giveTurn
  repeat' with_reducible first | exact h_post _ | refine q_mb ?_ ?_ | refine q_ma (fun _ => ?_) | refine q_me (fun _ => ?_) | refine q_mi ?_ | exact id
theorem mn_wl_WR_orderSymbols_49 {post post' : gMem → Prop}  (h_post : ∀ y0, post y0 → post' y0) : ∀ (n : Nat) (z0 : Int32) (z1 : Int32) (z2 : gMem), wl_WR_orderSymbols_49 post n z0 z1 z2 → wl_WR_orderSymbols_49 post' n z0 z1 z2 := by
  intro n
  induction n with
  | zero => intro z0 z1 z2 h; exact h
  | succ n ih =>
    intro z0 z1 z2
    unfold wl_WR_orderSymbols_49
    repeat' with_reducible first | exact h_post _ | exact ih _ _ _ | refine mn_wp_CT_symbolFact_m (fun _ _ => ?_) | refine mn_wp_WR_giveTurn (fun _ => ?_) | refine q_mb ?_ ?_ | refine q_ma (fun _ => ?_) | refine q_me (fun _ => ?_) | refine q_mi ?_ | exact id
theorem mn_wl_WR_orderSymbols_4 {post post' : gMem → Prop}  (h_post : ∀ y0, post y0 → post' y0) : ∀ (n : Nat) (z0 : Int32) (z1 : Int32) (z2 : gMem), wl_WR_orderSymbols_4 post n z0 z1 z2 → wl_WR_orderSymbols_4 post' n z0 z1 z2 := by
  intro n
  induction n with
  | zero => intro z0 z1 z2 h; exact h
  | succ n ih =>
    intro z0 z1 z2
    unfold wl_WR_orderSymbols_4
    repeat' with_reducible first | exact h_post _ | exact ih _ _ _ | refine mn_wl_WR_orderSymbols_49 (fun _ => ?_) _ _ _ _ | refine mn_wp_CT_symbolFact_m (fun _ _ => ?_) | refine mn_wp_WR_giveTurn (fun _ => ?_) | refine q_mb ?_ ?_ | refine q_ma (fun _ => ?_) | refine q_me (fun _ => ?_) | refine q_mi ?_ | exact id
theorem mn_wp_WR_orderSymbols {post post' : gMem → Prop} {M : gMem} (h_post : ∀ y0, post y0 → post' y0) : wp_WR_orderSymbols post M → wp_WR_orderSymbols post' M := by
  unfold wp_WR_orderSymbols
  repeat' with_reducible first | exact h_post _ | refine mn_wl_WR_orderSymbols_4 (fun _ => ?_) _ _ _ _ | refine q_mb ?_ ?_ | refine q_ma (fun _ => ?_) | refine q_me (fun _ => ?_) | refine q_mi ?_ | exact id
theorem mn_wp_ST_restart_n {post post' : gMem → Prop} {M : gMem} (h_post : ∀ y0, post y0 → post' y0) : wp_ST_restart_n post M → wp_ST_restart_n post' M := by
  unfold wp_ST_restart_n
  repeat' with_reducible first | exact h_post _ | refine q_mb ?_ ?_ | refine q_ma (fun _ => ?_) | refine q_me (fun _ => ?_) | refine q_mi ?_ | exact id
theorem mn_wp_ST_putBehind_n_7 {post post' : Int32 → gMem → Prop} {a1 : Int32} {a2 : Int32} {M : gMem} (h_post : ∀ y0 y1, post y0 y1 → post' y0 y1) : wp_ST_putBehind_n_7 post a1 a2 M → wp_ST_putBehind_n_7 post' a1 a2 M := by
  unfold wp_ST_putBehind_n_7
  repeat' with_reducible first | exact h_post _ _ | refine q_mb ?_ ?_ | refine q_ma (fun _ => ?_) | refine q_me (fun _ => ?_) | refine q_mi ?_ | exact id
theorem mn_wl_ST_standsAt_n_7_3 {post post' : Bool → gMem → Prop}  (h_post : ∀ y0 y1, post y0 y1 → post' y0 y1) : ∀ (n : Nat) (z0 : Int32) (z1 : Int32) (z2 : Int32) (z3 : Int32) (z4 : gMem), wl_ST_standsAt_n_7_3 post n z0 z1 z2 z3 z4 → wl_ST_standsAt_n_7_3 post' n z0 z1 z2 z3 z4 := by
  intro n
  induction n with
  | zero => intro z0 z1 z2 z3 z4 h; exact h
  | succ n ih =>
    intro z0 z1 z2 z3 z4
    unfold wl_ST_standsAt_n_7_3
    repeat' with_reducible first | exact h_post _ _ | exact ih _ _ _ _ _ | refine q_mb ?_ ?_ | refine q_ma (fun _ => ?_) | refine q_me (fun _ => ?_) | refine q_mi ?_ | exact id
theorem mn_wp_ST_standsAt_n_7 {post post' : Bool → gMem → Prop} {a0 : Int32} {a2 : Int32} {a3 : Int32} {M : gMem} (h_post : ∀ y0 y1, post y0 y1 → post' y0 y1) : wp_ST_standsAt_n_7 post a0 a2 a3 M → wp_ST_standsAt_n_7 post' a0 a2 a3 M := by
  unfold wp_ST_standsAt_n_7
  repeat' with_reducible first | exact h_post _ _ | refine mn_wl_ST_standsAt_n_7_3 (fun _ _ => ?_) _ _ _ _ _ _ | refine q_mb ?_ ?_ | refine q_ma (fun _ => ?_) | refine q_me (fun _ => ?_) | refine q_mi ?_ | exact id
theorem mn_wl_ST_placeOf_n_7_22 {post post' : Int32 → gMem → Prop}  (h_post : ∀ y0 y1, post y0 y1 → post' y0 y1) : ∀ (n : Nat) (z0 : Int32) (z1 : Int32) (z2 : Int32) (z3 : gMem), wl_ST_placeOf_n_7_22 post n z0 z1 z2 z3 → wl_ST_placeOf_n_7_22 post' n z0 z1 z2 z3 := by
  intro n
  induction n with
  | zero => intro z0 z1 z2 z3 h; exact h
  | succ n ih =>
    intro z0 z1 z2 z3
    unfold wl_ST_placeOf_n_7_22
    repeat' with_reducible first | exact h_post _ _ | exact ih _ _ _ _ | refine mn_wp_ST_putBehind_n_7 (fun _ _ => ?_) | refine mn_wp_ST_standsAt_n_7 (fun _ _ => ?_) | refine q_mb ?_ ?_ | refine q_ma (fun _ => ?_) | refine q_me (fun _ => ?_) | refine q_mi ?_ | exact id
theorem mn_wp_ST_placeOf_n_7 {post post' : Int32 → gMem → Prop} {a1 : Int32} {a2 : Int32} {M : gMem} (h_post : ∀ y0 y1, post y0 y1 → post' y0 y1) : wp_ST_placeOf_n_7 post a1 a2 M → wp_ST_placeOf_n_7 post' a1 a2 M := by
  unfold wp_ST_placeOf_n_7
  repeat' with_reducible first | exact h_post _ _ | refine mn_wl_ST_placeOf_n_7_22 (fun _ _ => ?_) _ _ _ _ _ | refine q_mb ?_ ?_ | refine q_ma (fun _ => ?_) | refine q_me (fun _ => ?_) | refine q_mi ?_ | exact id
theorem mn_wl_WR_gatherNames_9 {post post' : gMem → Prop}  (h_post : ∀ y0, post y0 → post' y0) : ∀ (n : Nat) (z0 : Int32) (z1 : gMem), wl_WR_gatherNames_9 post n z0 z1 → wl_WR_gatherNames_9 post' n z0 z1 := by
  intro n
  induction n with
  | zero => intro z0 z1 h; exact h
  | succ n ih =>
    intro z0 z1
    unfold wl_WR_gatherNames_9
    repeat' with_reducible first | exact h_post _ | exact ih _ _ | refine mn_wp_CT_symbolFact_m (fun _ _ => ?_) | refine mn_wp_ST_placeOf_n_7 (fun _ _ => ?_) | refine q_mb ?_ ?_ | refine q_ma (fun _ => ?_) | refine q_me (fun _ => ?_) | refine q_mi ?_ | exact id
theorem mn_wp_WR_gatherNames {post post' : gMem → Prop} {M : gMem} (h_post : ∀ y0, post y0 → post' y0) : wp_WR_gatherNames post M → wp_WR_gatherNames post' M := by
  unfold wp_WR_gatherNames
  repeat' with_reducible first | exact h_post _ | refine mn_wp_ST_restart_n (fun _ => ?_) | refine mn_wl_WR_gatherNames_9 (fun _ => ?_) _ _ _ | refine q_mb ?_ ?_ | refine q_ma (fun _ => ?_) | refine q_me (fun _ => ?_) | refine q_mi ?_ | exact id
theorem mn_wl_CT_relocationsOf_m_4 {post post' : Int32 → gMem → Prop}  (h_post : ∀ y0 y1, post y0 y1 → post' y0 y1) : ∀ (n : Nat) (z0 : Int32) (z1 : Int32) (z2 : Int32) (z3 : gMem), wl_CT_relocationsOf_m_4 post n z0 z1 z2 z3 → wl_CT_relocationsOf_m_4 post' n z0 z1 z2 z3 := by
  intro n
  induction n with
  | zero => intro z0 z1 z2 z3 h; exact h
  | succ n ih =>
    intro z0 z1 z2 z3
    unfold wl_CT_relocationsOf_m_4
    repeat' with_reducible first | exact h_post _ _ | exact ih _ _ _ _ | refine mn_wp_CT_relocationFact_m (fun _ _ => ?_) | refine q_mb ?_ ?_ | refine q_ma (fun _ => ?_) | refine q_me (fun _ => ?_) | refine q_mi ?_ | exact id
theorem mn_wp_CT_relocationsOf_m {post post' : Int32 → gMem → Prop} {a0 : Int32} {M : gMem} (h_post : ∀ y0 y1, post y0 y1 → post' y0 y1) : wp_CT_relocationsOf_m post a0 M → wp_CT_relocationsOf_m post' a0 M := by
  unfold wp_CT_relocationsOf_m
  repeat' with_reducible first | exact h_post _ _ | refine mn_wl_CT_relocationsOf_m_4 (fun _ _ => ?_) _ _ _ _ _ | refine q_mb ?_ ?_ | refine q_ma (fun _ => ?_) | refine q_me (fun _ => ?_) | refine q_mi ?_ | exact id
theorem mn_wl_WR_measureParts_45 {post post' : gMem → Prop}  (h_post : ∀ y0, post y0 → post' y0) : ∀ (n : Nat) (z0 : Int32) (z1 : gMem), wl_WR_measureParts_45 post n z0 z1 → wl_WR_measureParts_45 post' n z0 z1 := by
  intro n
  induction n with
  | zero => intro z0 z1 h; exact h
  | succ n ih =>
    intro z0 z1
    unfold wl_WR_measureParts_45
    repeat' with_reducible first | exact h_post _ | exact ih _ _ | refine mn_wp_CT_relocationsOf_m (fun _ _ => ?_) | refine q_mb ?_ ?_ | refine q_ma (fun _ => ?_) | refine q_me (fun _ => ?_) | refine q_mi ?_ | exact id
theorem mn_wl_WR_measureParts_2 {post post' : gMem → Prop}  (h_post : ∀ y0, post y0 → post' y0) : ∀ (n : Nat) (z0 : Int32) (z1 : gMem), wl_WR_measureParts_2 post n z0 z1 → wl_WR_measureParts_2 post' n z0 z1 := by
  intro n
  induction n with
  | zero => intro z0 z1 h; exact h
  | succ n ih =>
    intro z0 z1
    unfold wl_WR_measureParts_2
    repeat' with_reducible first | exact h_post _ | exact ih _ _ | refine mn_wl_WR_measureParts_45 (fun _ => ?_) _ _ _ | refine q_mb ?_ ?_ | refine q_ma (fun _ => ?_) | refine q_me (fun _ => ?_) | refine q_mi ?_ | exact id
theorem mn_wp_WR_measureParts {post post' : gMem → Prop} {M : gMem} (h_post : ∀ y0, post y0 → post' y0) : wp_WR_measureParts post M → wp_WR_measureParts post' M := by
  unfold wp_WR_measureParts
  repeat' with_reducible first | exact h_post _ | refine mn_wl_WR_measureParts_2 (fun _ => ?_) _ _ _ | refine q_mb ?_ ?_ | refine q_ma (fun _ => ?_) | refine q_me (fun _ => ?_) | refine q_mi ?_ | exact id
theorem mn_wp_ST_restart_l {post post' : gMem → Prop} {M : gMem} (h_post : ∀ y0, post y0 → post' y0) : wp_ST_restart_l post M → wp_ST_restart_l post' M := by
  unfold wp_ST_restart_l
  repeat' with_reducible first | exact h_post _ | refine q_mb ?_ ?_ | refine q_ma (fun _ => ?_) | refine q_me (fun _ => ?_) | refine q_mi ?_ | exact id
theorem mn_wp_WR_isThere {post post' : Bool → gMem → Prop} {a0 : Int32} {M : gMem} (h_post : ∀ y0 y1, post y0 y1 → post' y0 y1) : wp_WR_isThere post a0 M → wp_WR_isThere post' a0 M := by
  unfold wp_WR_isThere
  repeat' with_reducible first | exact h_post _ _ | refine q_mb ?_ ?_ | refine q_ma (fun _ => ?_) | refine q_me (fun _ => ?_) | refine q_mi ?_ | exact id
theorem mn_wp_OF_labelOf {post post' : Nat → gMem → Prop} {a0 : Int32} {M : gMem} (h_post : ∀ y0 y1, post y0 y1 → post' y0 y1) : wp_OF_labelOf post a0 M → wp_OF_labelOf post' a0 M := by
  unfold wp_OF_labelOf
  repeat' with_reducible first | exact h_post _ _ | refine q_mb ?_ ?_ | refine q_ma (fun _ => ?_) | refine q_me (fun _ => ?_) | refine q_mi ?_ | exact id
theorem mn_wl_WR_spell_18 {post post' : Int32 → gMem → Prop}  (h_post : ∀ y0 y1, post y0 y1 → post' y0 y1) : ∀ (n : Nat) (z0 : Nat) (z1 : Int32) (z2 : Int32) (z3 : gMem), wl_WR_spell_18 post n z0 z1 z2 z3 → wl_WR_spell_18 post' n z0 z1 z2 z3 := by
  intro n
  induction n with
  | zero => intro z0 z1 z2 z3 h; exact h
  | succ n ih =>
    intro z0 z1 z2 z3
    unfold wl_WR_spell_18
    repeat' with_reducible first | exact h_post _ _ | exact ih _ _ _ _ | refine q_mb ?_ ?_ | refine q_ma (fun _ => ?_) | refine q_me (fun _ => ?_) | refine q_mi ?_ | exact id
theorem mn_wp_WR_spell {post post' : Int32 → gMem → Prop} {a0 : Int32} {M : gMem} (h_post : ∀ y0 y1, post y0 y1 → post' y0 y1) : wp_WR_spell post a0 M → wp_WR_spell post' a0 M := by
  unfold wp_WR_spell
  repeat' with_reducible first | exact h_post _ _ | refine mn_wp_OF_labelOf (fun _ _ => ?_) | refine mn_wl_WR_spell_18 (fun _ _ => ?_) _ _ _ _ _ | refine q_mb ?_ ?_ | refine q_ma (fun _ => ?_) | refine q_me (fun _ => ?_) | refine q_mi ?_ | exact id
theorem mn_wp_ST_putBehind_l_24 {post post' : Int32 → gMem → Prop} {a1 : Int32} {a2 : Int32} {M : gMem} (h_post : ∀ y0 y1, post y0 y1 → post' y0 y1) : wp_ST_putBehind_l_24 post a1 a2 M → wp_ST_putBehind_l_24 post' a1 a2 M := by
  unfold wp_ST_putBehind_l_24
  repeat' with_reducible first | exact h_post _ _ | refine q_mb ?_ ?_ | refine q_ma (fun _ => ?_) | refine q_me (fun _ => ?_) | refine q_mi ?_ | exact id
theorem mn_wl_ST_standsAt_l_24_3 {post post' : Bool → gMem → Prop}  (h_post : ∀ y0 y1, post y0 y1 → post' y0 y1) : ∀ (n : Nat) (z0 : Int32) (z1 : Int32) (z2 : Int32) (z3 : Int32) (z4 : gMem), wl_ST_standsAt_l_24_3 post n z0 z1 z2 z3 z4 → wl_ST_standsAt_l_24_3 post' n z0 z1 z2 z3 z4 := by
  intro n
  induction n with
  | zero => intro z0 z1 z2 z3 z4 h; exact h
  | succ n ih =>
    intro z0 z1 z2 z3 z4
    unfold wl_ST_standsAt_l_24_3
    repeat' with_reducible first | exact h_post _ _ | exact ih _ _ _ _ _ | refine q_mb ?_ ?_ | refine q_ma (fun _ => ?_) | refine q_me (fun _ => ?_) | refine q_mi ?_ | exact id
theorem mn_wp_ST_standsAt_l_24 {post post' : Bool → gMem → Prop} {a0 : Int32} {a2 : Int32} {a3 : Int32} {M : gMem} (h_post : ∀ y0 y1, post y0 y1 → post' y0 y1) : wp_ST_standsAt_l_24 post a0 a2 a3 M → wp_ST_standsAt_l_24 post' a0 a2 a3 M := by
  unfold wp_ST_standsAt_l_24
  repeat' with_reducible first | exact h_post _ _ | refine mn_wl_ST_standsAt_l_24_3 (fun _ _ => ?_) _ _ _ _ _ _ | refine q_mb ?_ ?_ | refine q_ma (fun _ => ?_) | refine q_me (fun _ => ?_) | refine q_mi ?_ | exact id
theorem mn_wl_ST_placeOf_l_24_22 {post post' : Int32 → gMem → Prop}  (h_post : ∀ y0 y1, post y0 y1 → post' y0 y1) : ∀ (n : Nat) (z0 : Int32) (z1 : Int32) (z2 : Int32) (z3 : gMem), wl_ST_placeOf_l_24_22 post n z0 z1 z2 z3 → wl_ST_placeOf_l_24_22 post' n z0 z1 z2 z3 := by
  intro n
  induction n with
  | zero => intro z0 z1 z2 z3 h; exact h
  | succ n ih =>
    intro z0 z1 z2 z3
    unfold wl_ST_placeOf_l_24_22
    repeat' with_reducible first | exact h_post _ _ | exact ih _ _ _ _ | refine mn_wp_ST_putBehind_l_24 (fun _ _ => ?_) | refine mn_wp_ST_standsAt_l_24 (fun _ _ => ?_) | refine q_mb ?_ ?_ | refine q_ma (fun _ => ?_) | refine q_me (fun _ => ?_) | refine q_mi ?_ | exact id
theorem mn_wp_ST_placeOf_l_24 {post post' : Int32 → gMem → Prop} {a1 : Int32} {a2 : Int32} {M : gMem} (h_post : ∀ y0 y1, post y0 y1 → post' y0 y1) : wp_ST_placeOf_l_24 post a1 a2 M → wp_ST_placeOf_l_24 post' a1 a2 M := by
  unfold wp_ST_placeOf_l_24
  repeat' with_reducible first | exact h_post _ _ | refine mn_wl_ST_placeOf_l_24_22 (fun _ _ => ?_) _ _ _ _ _ | refine q_mb ?_ ?_ | refine q_ma (fun _ => ?_) | refine q_me (fun _ => ?_) | refine q_mi ?_ | exact id
theorem mn_wl_WR_numberEntries_14 {post post' : gMem → Prop}  (h_post : ∀ y0, post y0 → post' y0) : ∀ (n : Nat) (z0 : Int32) (z1 : gMem), wl_WR_numberEntries_14 post n z0 z1 → wl_WR_numberEntries_14 post' n z0 z1 := by
  intro n
  induction n with
  | zero => intro z0 z1 h; exact h
  | succ n ih =>
    intro z0 z1
    unfold wl_WR_numberEntries_14
    repeat' with_reducible first | exact h_post _ | exact ih _ _ | refine mn_wp_WR_isThere (fun _ _ => ?_) | refine mn_wp_WR_spell (fun _ _ => ?_) | refine mn_wp_ST_placeOf_l_24 (fun _ _ => ?_) | refine q_mb ?_ ?_ | refine q_ma (fun _ => ?_) | refine q_me (fun _ => ?_) | refine q_mi ?_ | exact id
theorem mn_wp_WR_numberEntries {post post' : gMem → Prop} {M : gMem} (h_post : ∀ y0, post y0 → post' y0) : wp_WR_numberEntries post M → wp_WR_numberEntries post' M := by
  unfold wp_WR_numberEntries
  repeat' with_reducible first | exact h_post _ | refine mn_wp_ST_restart_l (fun _ => ?_) | refine mn_wl_WR_numberEntries_14 (fun _ => ?_) _ _ _ | refine q_mb ?_ ?_ | refine q_ma (fun _ => ?_) | refine q_me (fun _ => ?_) | refine q_mi ?_ | exact id
theorem mn_wp_WR_upTo {post post' : Int32 → gMem → Prop} {a0 : Int32} {a1 : Int32} {M : gMem} (h_post : ∀ y0 y1, post y0 y1 → post' y0 y1) : wp_WR_upTo post a0 a1 M → wp_WR_upTo post' a0 a1 M := by
  unfold wp_WR_upTo
  repeat' with_reducible first | exact h_post _ _ | refine q_mb ?_ ?_ | refine q_ma (fun _ => ?_) | refine q_me (fun _ => ?_) | refine q_mi ?_ | exact id
theorem mn_wp_WR_alignmentOf {post post' : Int32 → gMem → Prop} {a0 : Int32} {M : gMem} (h_post : ∀ y0 y1, post y0 y1 → post' y0 y1) : wp_WR_alignmentOf post a0 M → wp_WR_alignmentOf post' a0 M := by
  unfold wp_WR_alignmentOf
  repeat' with_reducible first | exact h_post _ _ | refine q_mb ?_ ?_ | refine q_ma (fun _ => ?_) | refine q_me (fun _ => ?_) | refine q_mi ?_ | exact id
theorem mn_wl_WR_layParts_5 {post post' : gMem → Prop}  (h_post : ∀ y0, post y0 → post' y0) : ∀ (n : Nat) (z0 : Int32) (z1 : Int32) (z2 : gMem), wl_WR_layParts_5 post n z0 z1 z2 → wl_WR_layParts_5 post' n z0 z1 z2 := by
  intro n
  induction n with
  | zero => intro z0 z1 z2 h; exact h
  | succ n ih =>
    intro z0 z1 z2
    unfold wl_WR_layParts_5
    repeat' with_reducible first | exact h_post _ | exact ih _ _ _ | refine mn_wp_WR_upTo (fun _ _ => ?_) | refine mn_wp_WR_isThere (fun _ _ => ?_) | refine mn_wp_WR_alignmentOf (fun _ _ => ?_) | refine q_mb ?_ ?_ | refine q_ma (fun _ => ?_) | refine q_me (fun _ => ?_) | refine q_mi ?_ | exact id
theorem mn_wp_WR_layParts {post post' : gMem → Prop} {M : gMem} (h_post : ∀ y0, post y0 → post' y0) : wp_WR_layParts post M → wp_WR_layParts post' M := by
  unfold wp_WR_layParts
  repeat' with_reducible first | exact h_post _ | refine mn_wl_WR_layParts_5 (fun _ => ?_) _ _ _ _ | refine q_mb ?_ ?_ | refine q_ma (fun _ => ?_) | refine q_me (fun _ => ?_) | refine q_mi ?_ | exact id
theorem mn_wp_AR_rangeCheck {post post' : gMem → Prop} {a0 : Int32} {a1 : Int32} {a2 : Int32} {M : gMem} (h_post : ∀ y0, post y0 → post' y0) : wp_AR_rangeCheck post a0 a1 a2 M → wp_AR_rangeCheck post' a0 a1 a2 M := by
  unfold wp_AR_rangeCheck
  repeat' with_reducible first | exact h_post _ | refine q_mb ?_ ?_ | refine q_ma (fun _ => ?_) | refine q_me (fun _ => ?_) | refine q_mi ?_ | exact id
theorem mn_wl_AR_fill0_18_10 {post post' : gMem → Prop}  (h_post : ∀ y0, post y0 → post' y0) : ∀ (n : Nat) (z0 : Int32) (z1 : Int32) (z2 : Int32) (z3 : gMem), wl_AR_fill0_18_10 post n z0 z1 z2 z3 → wl_AR_fill0_18_10 post' n z0 z1 z2 z3 := by
  intro n
  induction n with
  | zero => intro z0 z1 z2 z3 h; exact h
  | succ n ih =>
    intro z0 z1 z2 z3
    unfold wl_AR_fill0_18_10
    repeat' with_reducible first | exact h_post _ | exact ih _ _ _ _ | refine q_mb ?_ ?_ | refine q_ma (fun _ => ?_) | refine q_me (fun _ => ?_) | refine q_mi ?_ | exact id
theorem mn_wp_AR_fill0_18 {post post' : gMem → Prop} {a1 : Int32} {a2 : Int32} {a3 : Int32} {M : gMem} (h_post : ∀ y0, post y0 → post' y0) : wp_AR_fill0_18 post a1 a2 a3 M → wp_AR_fill0_18 post' a1 a2 a3 M := by
  unfold wp_AR_fill0_18
  repeat' with_reducible first | exact h_post _ | refine mn_wp_AR_rangeCheck (fun _ => ?_) | refine mn_wl_AR_fill0_18_10 (fun _ => ?_) _ _ _ _ _ | refine q_mb ?_ ?_ | refine q_ma (fun _ => ?_) | refine q_me (fun _ => ?_) | refine q_mi ?_ | exact id
theorem mn_wp_FB_zeros {post post' : gMem → Prop} {a0 : Int32} {M : gMem} (h_post : ∀ y0, post y0 → post' y0) : wp_FB_zeros post a0 M → wp_FB_zeros post' a0 M := by
  unfold wp_FB_zeros
  repeat' with_reducible first | exact h_post _ | refine mn_wp_AR_fill0_18 (fun _ => ?_) | refine q_mb ?_ ?_ | refine q_ma (fun _ => ?_) | refine q_me (fun _ => ?_) | refine q_mi ?_ | exact id
theorem mn_wp_FB_put2 {post post' : gMem → Prop} {a0 : Int32} {a1 : Int32} {M : gMem} (h_post : ∀ y0, post y0 → post' y0) : wp_FB_put2 post a0 a1 M → wp_FB_put2 post' a0 a1 M := by
  unfold wp_FB_put2
  repeat' with_reducible first | exact h_post _ | refine q_mb ?_ ?_ | refine q_ma (fun _ => ?_) | refine q_me (fun _ => ?_) | refine q_mi ?_ | exact id
theorem mn_wp_FB_put4 {post post' : gMem → Prop} {a0 : Int32} {a1 : Int32} {M : gMem} (h_post : ∀ y0, post y0 → post' y0) : wp_FB_put4 post a0 a1 M → wp_FB_put4 post' a0 a1 M := by
  unfold wp_FB_put4
  repeat' with_reducible first | exact h_post _ | refine q_mb ?_ ?_ | refine q_ma (fun _ => ?_) | refine q_me (fun _ => ?_) | refine q_mi ?_ | exact id
theorem mn_wp_CT_byteOf_m {post post' : Int32 → gMem → Prop} {a0 : Int32} {a1 : Int32} {M : gMem} (h_post : ∀ y0 y1, post y0 y1 → post' y0 y1) : wp_CT_byteOf_m post a0 a1 M → wp_CT_byteOf_m post' a0 a1 M := by
  unfold wp_CT_byteOf_m
  repeat' with_reducible first | exact h_post _ _ | refine q_mb ?_ ?_ | refine q_ma (fun _ => ?_) | refine q_me (fun _ => ?_) | refine q_mi ?_ | exact id
theorem mn_wp_OF_isShort {post post' : Bool → gMem → Prop} {a0 : Int32} {M : gMem} (h_post : ∀ y0 y1, post y0 y1 → post' y0 y1) : wp_OF_isShort post a0 M → wp_OF_isShort post' a0 M := by
  unfold wp_OF_isShort
  repeat' with_reducible first | exact h_post _ _ | refine q_mb ?_ ?_ | refine q_ma (fun _ => ?_) | refine q_me (fun _ => ?_) | refine q_mi ?_ | exact id
theorem mn_wl_CT_shortStarts_m_4 {post post' : Int32 → gMem → Prop}  (h_post : ∀ y0 y1, post y0 y1 → post' y0 y1) : ∀ (n : Nat) (z0 : Int32) (z1 : Int32) (z2 : gMem), wl_CT_shortStarts_m_4 post n z0 z1 z2 → wl_CT_shortStarts_m_4 post' n z0 z1 z2 := by
  intro n
  induction n with
  | zero => intro z0 z1 z2 h; exact h
  | succ n ih =>
    intro z0 z1 z2
    unfold wl_CT_shortStarts_m_4
    repeat' with_reducible first | exact h_post _ _ | exact ih _ _ _ | refine mn_wp_CT_startOf_m (fun _ _ => ?_) | refine mn_wp_CT_byteOf_m (fun _ _ => ?_) | refine mn_wp_OF_isShort (fun _ _ => ?_) | refine q_mb ?_ ?_ | refine q_ma (fun _ => ?_) | refine q_me (fun _ => ?_) | refine q_mi ?_ | exact id
theorem mn_wp_CT_shortStarts_m {post post' : Int32 → gMem → Prop} {M : gMem} (h_post : ∀ y0 y1, post y0 y1 → post' y0 y1) : wp_CT_shortStarts_m post M → wp_CT_shortStarts_m post' M := by
  unfold wp_CT_shortStarts_m
  repeat' with_reducible first | exact h_post _ _ | refine mn_wl_CT_shortStarts_m_4 (fun _ _ => ?_) _ _ _ _ | refine q_mb ?_ ?_ | refine q_ma (fun _ => ?_) | refine q_me (fun _ => ?_) | refine q_mi ?_ | exact id
theorem mn_wp_FB_put1 {post post' : gMem → Prop} {a0 : Int32} {a1 : Int32} {M : gMem} (h_post : ∀ y0, post y0 → post' y0) : wp_FB_put1 post a0 a1 M → wp_FB_put1 post' a0 a1 M := by
  unfold wp_FB_put1
  repeat' with_reducible first | exact h_post _ | refine q_mb ?_ ?_ | refine q_ma (fun _ => ?_) | refine q_me (fun _ => ?_) | refine q_mi ?_ | exact id
theorem mn_wj_WR_putHeader_118 {post post' : gMem → Prop} {s0 : Int32} {s1 : Int32} {M : gMem} (h_post : ∀ y0, post y0 → post' y0) : wj_WR_putHeader_118 post s0 s1 M → wj_WR_putHeader_118 post' s0 s1 M := by
  unfold wj_WR_putHeader_118
  repeat' with_reducible first | exact h_post _ | refine mn_wp_FB_put4 (fun _ => ?_) | refine mn_wp_FB_put2 (fun _ => ?_) | refine q_mb ?_ ?_ | refine q_ma (fun _ => ?_) | refine q_me (fun _ => ?_) | refine q_mi ?_ | exact id
theorem mn_wl_WR_putHeader_31 {post post' : gMem → Prop}  (h_post : ∀ y0, post y0 → post' y0) : ∀ (n : Nat) (z0 : Int32) (z1 : gMem), wl_WR_putHeader_31 post n z0 z1 → wl_WR_putHeader_31 post' n z0 z1 := by
  intro n
  induction n with
  | zero => intro z0 z1 h; exact h
  | succ n ih =>
    intro z0 z1
    unfold wl_WR_putHeader_31
    repeat' with_reducible first | exact h_post _ | exact ih _ _ | refine mn_wp_FB_put2 (fun _ => ?_) | refine mn_wp_FB_put4 (fun _ => ?_) | refine mn_wp_CT_shortStarts_m (fun _ _ => ?_) | refine mn_wj_WR_putHeader_118 (fun _ => ?_) | refine mn_wp_FB_put1 (fun _ => ?_) | refine q_mb ?_ ?_ | refine q_ma (fun _ => ?_) | refine q_me (fun _ => ?_) | refine q_mi ?_ | exact id
theorem mn_wl_WR_putHeader_2 {post post' : gMem → Prop}  (h_post : ∀ y0, post y0 → post' y0) : ∀ (n : Nat) (z0 : Int32) (z1 : gMem), wl_WR_putHeader_2 post n z0 z1 → wl_WR_putHeader_2 post' n z0 z1 := by
  intro n
  induction n with
  | zero => intro z0 z1 h; exact h
  | succ n ih =>
    intro z0 z1
    unfold wl_WR_putHeader_2
    repeat' with_reducible first | exact h_post _ | exact ih _ _ | refine mn_wl_WR_putHeader_31 (fun _ => ?_) _ _ _ | refine mn_wp_FB_put1 (fun _ => ?_) | refine q_mb ?_ ?_ | refine q_ma (fun _ => ?_) | refine q_me (fun _ => ?_) | refine q_mi ?_ | exact id
theorem mn_wp_WR_putHeader {post post' : gMem → Prop} {M : gMem} (h_post : ∀ y0, post y0 → post' y0) : wp_WR_putHeader post M → wp_WR_putHeader post' M := by
  unfold wp_WR_putHeader
  repeat' with_reducible first | exact h_post _ | refine mn_wl_WR_putHeader_2 (fun _ => ?_) _ _ _ | refine q_mb ?_ ?_ | refine q_ma (fun _ => ?_) | refine q_me (fun _ => ?_) | refine q_mi ?_ | exact id
theorem mn_wp_FB_copyIn_21 {post post' : gMem → Prop} {a1 : Int32} {a2 : Int32} {a3 : Int32} {M : gMem} (h_post : ∀ y0, post y0 → post' y0) : wp_FB_copyIn_21 post a1 a2 a3 M → wp_FB_copyIn_21 post' a1 a2 a3 M := by
  unfold wp_FB_copyIn_21
  repeat' with_reducible first | exact h_post _ | refine q_mb ?_ ?_ | refine q_ma (fun _ => ?_) | refine q_me (fun _ => ?_) | refine q_mi ?_ | exact id
theorem mn_wp_FB_copyIn_23 {post post' : gMem → Prop} {a1 : Int32} {a2 : Int32} {a3 : Int32} {M : gMem} (h_post : ∀ y0, post y0 → post' y0) : wp_FB_copyIn_23 post a1 a2 a3 M → wp_FB_copyIn_23 post' a1 a2 a3 M := by
  unfold wp_FB_copyIn_23
  repeat' with_reducible first | exact h_post _ | refine q_mb ?_ ?_ | refine q_ma (fun _ => ?_) | refine q_me (fun _ => ?_) | refine q_mi ?_ | exact id
theorem mn_wp_WR_whereInFile {post post' : Int32 → gMem → Prop} {a0 : Int32} {M : gMem} (h_post : ∀ y0 y1, post y0 y1 → post' y0 y1) : wp_WR_whereInFile post a0 M → wp_WR_whereInFile post' a0 M := by
  unfold wp_WR_whereInFile
  repeat' with_reducible first | exact h_post _ _ | refine q_mb ?_ ?_ | refine q_ma (fun _ => ?_) | refine q_me (fun _ => ?_) | refine q_mi ?_ | exact id
theorem mn_wp_WR_putSymbol {post post' : gMem → Prop} {a0 : Int32} {M : gMem} (h_post : ∀ y0, post y0 → post' y0) : wp_WR_putSymbol post a0 M → wp_WR_putSymbol post' a0 M := by
  unfold wp_WR_putSymbol
  repeat' with_reducible first | exact h_post _ | refine mn_wp_FB_put4 (fun _ => ?_) | refine mn_wp_CT_symbolFact_m (fun _ _ => ?_) | refine mn_wp_FB_put1 (fun _ => ?_) | refine mn_wp_WR_whereInFile (fun _ _ => ?_) | refine mn_wp_FB_put2 (fun _ => ?_) | refine q_mb ?_ ?_ | refine q_ma (fun _ => ?_) | refine q_me (fun _ => ?_) | refine q_mi ?_ | exact id
theorem mn_wj_WR_putRelocations_69 {post post' : gMem → Prop} {k11 k11' : Int32 → Int32 → Int32 → gMem → Prop} {v1 : Int32} {v2 : Int32} {v3 : Int32} {s0 : Int32} {M : gMem} (h_post : ∀ y0, post y0 → post' y0) (h_k11 : ∀ y0 y1 y2 y3, k11 y0 y1 y2 y3 → k11' y0 y1 y2 y3) : wj_WR_putRelocations_69 post k11 v1 v2 v3 s0 M → wj_WR_putRelocations_69 post' k11' v1 v2 v3 s0 M := by
  unfold wj_WR_putRelocations_69
  repeat' with_reducible first | exact h_post _ | exact h_k11 _ _ _ _ | refine mn_wp_CT_relocationFact_m (fun _ _ => ?_) | refine mn_wp_FB_put4 (fun _ => ?_) | refine q_mb ?_ ?_ | refine q_ma (fun _ => ?_) | refine q_me (fun _ => ?_) | refine q_mi ?_ | exact id
theorem mn_wj_WR_putRelocations_58 {post post' : gMem → Prop} {k11 k11' : Int32 → Int32 → Int32 → gMem → Prop} {v1 : Int32} {v2 : Int32} {v3 : Int32} {M : gMem} (h_post : ∀ y0, post y0 → post' y0) (h_k11 : ∀ y0 y1 y2 y3, k11 y0 y1 y2 y3 → k11' y0 y1 y2 y3) : wj_WR_putRelocations_58 post k11 v1 v2 v3 M → wj_WR_putRelocations_58 post' k11' v1 v2 v3 M := by
  unfold wj_WR_putRelocations_58
  repeat' with_reducible first | exact h_post _ | exact h_k11 _ _ _ _ | refine mn_wj_WR_putRelocations_69 (fun _ => ?_) (fun _ _ _ _ => ?_) | refine q_mb ?_ ?_ | refine q_ma (fun _ => ?_) | refine q_me (fun _ => ?_) | refine q_mi ?_ | exact id
theorem mn_wl_WR_putRelocations_11 {post post' : gMem → Prop}  (h_post : ∀ y0, post y0 → post' y0) : ∀ (n : Nat) (z0 : Int32) (z1 : Int32) (z2 : Int32) (z3 : gMem), wl_WR_putRelocations_11 post n z0 z1 z2 z3 → wl_WR_putRelocations_11 post' n z0 z1 z2 z3 := by
  intro n
  induction n with
  | zero => intro z0 z1 z2 z3 h; exact h
  | succ n ih =>
    intro z0 z1 z2 z3
    unfold wl_WR_putRelocations_11
    repeat' with_reducible first | exact h_post _ | exact ih _ _ _ _ | refine mn_wp_CT_relocationFact_m (fun _ _ => ?_) | refine mn_wj_WR_putRelocations_58 (fun _ => ?_) (fun _ _ _ _ => ?_) | refine mn_wj_WR_putRelocations_69 (fun _ => ?_) (fun _ _ _ _ => ?_) | refine q_mb ?_ ?_ | refine q_ma (fun _ => ?_) | refine q_me (fun _ => ?_) | refine q_mi ?_ | exact id
theorem mn_wp_WR_putRelocations {post post' : gMem → Prop} {a0 : Int32} {M : gMem} (h_post : ∀ y0, post y0 → post' y0) : wp_WR_putRelocations post a0 M → wp_WR_putRelocations post' a0 M := by
  unfold wp_WR_putRelocations
  repeat' with_reducible first | exact h_post _ | refine mn_wl_WR_putRelocations_11 (fun _ => ?_) _ _ _ _ _ | refine q_mb ?_ ?_ | refine q_ma (fun _ => ?_) | refine q_me (fun _ => ?_) | refine q_mi ?_ | exact id
theorem mn_wp_FB_copyIn_2 {post post' : gMem → Prop} {a1 : Int32} {a2 : Int32} {a3 : Int32} {M : gMem} (h_post : ∀ y0, post y0 → post' y0) : wp_FB_copyIn_2 post a1 a2 a3 M → wp_FB_copyIn_2 post' a1 a2 a3 M := by
  unfold wp_FB_copyIn_2
  repeat' with_reducible first | exact h_post _ | refine q_mb ?_ ?_ | refine q_ma (fun _ => ?_) | refine q_me (fun _ => ?_) | refine q_mi ?_ | exact id
theorem mn_wl_WR_putParts_108 {post post' : gMem → Prop}  (h_post : ∀ y0, post y0 → post' y0) : ∀ (n : Nat) (z0 : Int32) (z1 : gMem), wl_WR_putParts_108 post n z0 z1 → wl_WR_putParts_108 post' n z0 z1 := by
  intro n
  induction n with
  | zero => intro z0 z1 h; exact h
  | succ n ih =>
    intro z0 z1
    unfold wl_WR_putParts_108
    repeat' with_reducible first | exact h_post _ | exact ih _ _ | refine mn_wp_FB_copyIn_21 (fun _ => ?_) | refine mn_wp_FB_copyIn_23 (fun _ => ?_) | refine mn_wp_WR_putSymbol (fun _ => ?_) | refine q_mb ?_ ?_ | refine q_ma (fun _ => ?_) | refine q_me (fun _ => ?_) | refine q_mi ?_ | exact id
theorem mn_wl_WR_putParts_90 {post post' : gMem → Prop}  (h_post : ∀ y0, post y0 → post' y0) : ∀ (n : Nat) (z0 : Int32) (z1 : gMem), wl_WR_putParts_90 post n z0 z1 → wl_WR_putParts_90 post' n z0 z1 := by
  intro n
  induction n with
  | zero => intro z0 z1 h; exact h
  | succ n ih =>
    intro z0 z1
    unfold wl_WR_putParts_90
    repeat' with_reducible first | exact h_post _ | exact ih _ _ | refine mn_wl_WR_putParts_108 (fun _ => ?_) _ _ _ | refine mn_wp_WR_putRelocations (fun _ => ?_) | refine q_mb ?_ ?_ | refine q_ma (fun _ => ?_) | refine q_me (fun _ => ?_) | refine q_mi ?_ | exact id
theorem mn_wl_WR_putParts_46 {post post' : gMem → Prop}  (h_post : ∀ y0, post y0 → post' y0) : ∀ (n : Nat) (z0 : Int32) (z1 : gMem), wl_WR_putParts_46 post n z0 z1 → wl_WR_putParts_46 post' n z0 z1 := by
  intro n
  induction n with
  | zero => intro z0 z1 h; exact h
  | succ n ih =>
    intro z0 z1
    unfold wl_WR_putParts_46
    repeat' with_reducible first | exact h_post _ | exact ih _ _ | refine mn_wl_WR_putParts_90 (fun _ => ?_) _ _ _ | refine mn_wp_CT_startOf_m (fun _ _ => ?_) | refine mn_wp_FB_put2 (fun _ => ?_) | refine q_mb ?_ ?_ | refine q_ma (fun _ => ?_) | refine q_me (fun _ => ?_) | refine q_mi ?_ | exact id
theorem mn_wl_WR_putParts_2 {post post' : gMem → Prop}  (h_post : ∀ y0, post y0 → post' y0) : ∀ (n : Nat) (z0 : Int32) (z1 : gMem), wl_WR_putParts_2 post n z0 z1 → wl_WR_putParts_2 post' n z0 z1 := by
  intro n
  induction n with
  | zero => intro z0 z1 h; exact h
  | succ n ih =>
    intro z0 z1
    unfold wl_WR_putParts_2
    repeat' with_reducible first | exact h_post _ | exact ih _ _ | refine mn_wl_WR_putParts_46 (fun _ => ?_) _ _ _ | refine mn_wp_FB_copyIn_2 (fun _ => ?_) | refine q_mb ?_ ?_ | refine q_ma (fun _ => ?_) | refine q_me (fun _ => ?_) | refine q_mi ?_ | exact id
theorem mn_wp_WR_putParts {post post' : gMem → Prop} {M : gMem} (h_post : ∀ y0, post y0 → post' y0) : wp_WR_putParts post M → wp_WR_putParts post' M := by
  unfold wp_WR_putParts
  repeat' with_reducible first | exact h_post _ | refine mn_wl_WR_putParts_2 (fun _ => ?_) _ _ _ | refine q_mb ?_ ?_ | refine q_ma (fun _ => ?_) | refine q_me (fun _ => ?_) | refine q_mi ?_ | exact id
theorem mn_wp_OF_isRela {post post' : Bool → gMem → Prop} {a0 : Int32} {M : gMem} (h_post : ∀ y0 y1, post y0 y1 → post' y0 y1) : wp_OF_isRela post a0 M → wp_OF_isRela post' a0 M := by
  unfold wp_OF_isRela
  repeat' with_reducible first | exact h_post _ _ | refine q_mb ?_ ?_ | refine q_ma (fun _ => ?_) | refine q_me (fun _ => ?_) | refine q_mi ?_ | exact id
theorem mn_wp_WR_linkOf {post post' : Int32 → gMem → Prop} {a0 : Int32} {M : gMem} (h_post : ∀ y0 y1, post y0 y1 → post' y0 y1) : wp_WR_linkOf post a0 M → wp_WR_linkOf post' a0 M := by
  unfold wp_WR_linkOf
  repeat' with_reducible first | exact h_post _ _ | refine mn_wp_OF_isRela (fun _ _ => ?_) | refine q_mb ?_ ?_ | refine q_ma (fun _ => ?_) | refine q_me (fun _ => ?_) | refine q_mi ?_ | exact id
theorem mn_wp_WR_infoOf {post post' : Int32 → gMem → Prop} {a0 : Int32} {M : gMem} (h_post : ∀ y0 y1, post y0 y1 → post' y0 y1) : wp_WR_infoOf post a0 M → wp_WR_infoOf post' a0 M := by
  unfold wp_WR_infoOf
  repeat' with_reducible first | exact h_post _ _ | refine mn_wp_OF_isRela (fun _ _ => ?_) | refine q_mb ?_ ?_ | refine q_ma (fun _ => ?_) | refine q_me (fun _ => ?_) | refine q_mi ?_ | exact id
theorem mn_wp_WR_putEntry {post post' : gMem → Prop} {a0 : Int32} {M : gMem} (h_post : ∀ y0, post y0 → post' y0) : wp_WR_putEntry post a0 M → wp_WR_putEntry post' a0 M := by
  unfold wp_WR_putEntry
  repeat' with_reducible first | exact h_post _ | refine mn_wp_FB_put4 (fun _ => ?_) | refine mn_wp_WR_linkOf (fun _ _ => ?_) | refine mn_wp_WR_infoOf (fun _ _ => ?_) | refine mn_wp_WR_alignmentOf (fun _ _ => ?_) | refine q_mb ?_ ?_ | refine q_ma (fun _ => ?_) | refine q_me (fun _ => ?_) | refine q_mi ?_ | exact id
theorem mn_wl_WR_putTable_2 {post post' : gMem → Prop}  (h_post : ∀ y0, post y0 → post' y0) : ∀ (n : Nat) (z0 : Int32) (z1 : gMem), wl_WR_putTable_2 post n z0 z1 → wl_WR_putTable_2 post' n z0 z1 := by
  intro n
  induction n with
  | zero => intro z0 z1 h; exact h
  | succ n ih =>
    intro z0 z1
    unfold wl_WR_putTable_2
    repeat' with_reducible first | exact h_post _ | exact ih _ _ | refine mn_wp_WR_isThere (fun _ _ => ?_) | refine mn_wp_WR_putEntry (fun _ => ?_) | refine q_mb ?_ ?_ | refine q_ma (fun _ => ?_) | refine q_me (fun _ => ?_) | refine q_mi ?_ | exact id
theorem mn_wp_WR_putTable {post post' : gMem → Prop} {M : gMem} (h_post : ∀ y0, post y0 → post' y0) : wp_WR_putTable post M → wp_WR_putTable post' M := by
  unfold wp_WR_putTable
  repeat' with_reducible first | exact h_post _ | refine mn_wl_WR_putTable_2 (fun _ => ?_) _ _ _ | refine q_mb ?_ ?_ | refine q_ma (fun _ => ?_) | refine q_me (fun _ => ?_) | refine q_mi ?_ | exact id
theorem mn_wp_WR_writeAll {post post' : Int32 → gMem → Prop} {M : gMem} (h_post : ∀ y0 y1, post y0 y1 → post' y0 y1) : wp_WR_writeAll post M → wp_WR_writeAll post' M := by
  unfold wp_WR_writeAll
  repeat' with_reducible first | exact h_post _ _ | refine mn_wp_CT_startGoesBeyond_m (fun _ _ => ?_) | refine mn_wp_CT_symbolGoesBeyond_m (fun _ _ => ?_) | refine mn_wp_CT_relocationGoesBeyond_m (fun _ _ => ?_) | refine mn_wp_WR_orderSymbols (fun _ => ?_) | refine mn_wp_WR_gatherNames (fun _ => ?_) | refine mn_wp_WR_measureParts (fun _ => ?_) | refine mn_wp_WR_numberEntries (fun _ => ?_) | refine mn_wp_WR_layParts (fun _ => ?_) | refine mn_wp_FB_zeros (fun _ => ?_) | refine mn_wp_WR_putHeader (fun _ => ?_) | refine mn_wp_WR_putParts (fun _ => ?_) | refine mn_wp_WR_putTable (fun _ => ?_) | refine q_mb ?_ ?_ | refine q_ma (fun _ => ?_) | refine q_me (fun _ => ?_) | refine q_mi ?_ | exact id
theorem mn_wp_OF_write {post post' : Int32 → gMem → Prop} {M : gMem} (h_post : ∀ y0 y1, post y0 y1 → post' y0 y1) : wp_OF_write post M → wp_OF_write post' M := by
  unfold wp_OF_write
  repeat' with_reducible first | exact h_post _ _ | refine mn_wp_WR_writeAll (fun _ _ => ?_) | refine q_mb ?_ ?_ | refine q_ma (fun _ => ?_) | refine q_me (fun _ => ?_) | refine q_mi ?_ | exact id
theorem mn_wp_OF_size {post post' : Int32 → gMem → Prop} {M : gMem} (h_post : ∀ y0 y1, post y0 y1 → post' y0 y1) : wp_OF_size post M → wp_OF_size post' M := by
  unfold wp_OF_size
  repeat' with_reducible first | exact h_post _ _ | refine q_mb ?_ ?_ | refine q_ma (fun _ => ?_) | refine q_me (fun _ => ?_) | refine q_mi ?_ | exact id
theorem mn_wp_FB_has {post post' : Bool → gMem → Prop} {a0 : Int32} {M : gMem} (h_post : ∀ y0 y1, post y0 y1 → post' y0 y1) : wp_FB_has post a0 M → wp_FB_has post' a0 M := by
  unfold wp_FB_has
  repeat' with_reducible first | exact h_post _ _ | refine q_mb ?_ ?_ | refine q_ma (fun _ => ?_) | refine q_me (fun _ => ?_) | refine q_mi ?_ | exact id
theorem mn_wp_FB_u1 {post post' : Int32 → gMem → Prop} {a0 : Int32} {M : gMem} (h_post : ∀ y0 y1, post y0 y1 → post' y0 y1) : wp_FB_u1 post a0 M → wp_FB_u1 post' a0 M := by
  unfold wp_FB_u1
  repeat' with_reducible first | exact h_post _ _ | refine q_mb ?_ ?_ | refine q_ma (fun _ => ?_) | refine q_me (fun _ => ?_) | refine q_mi ?_ | exact id
theorem mn_wp_OF_byteAt {post post' : Int32 → gMem → Prop} {a0 : Int32} {M : gMem} (h_post : ∀ y0 y1, post y0 y1 → post' y0 y1) : wp_OF_byteAt post a0 M → wp_OF_byteAt post' a0 M := by
  unfold wp_OF_byteAt
  repeat' with_reducible first | exact h_post _ _ | refine mn_wp_FB_has (fun _ _ => ?_) | refine mn_wp_FB_u1 (fun _ _ => ?_) | refine q_mb ?_ ?_ | refine q_ma (fun _ => ?_) | refine q_me (fun _ => ?_) | refine q_mi ?_ | exact id
theorem mn_wl_FB_append_28 {post post' : Bool → gMem → Prop}  (h_post : ∀ y0 y1, post y0 y1 → post' y0 y1) : ∀ (n : Nat) (z0 : Int32) (z1 : Int64) (z2 : Int32) (z3 : gMem), wl_FB_append_28 post n z0 z1 z2 z3 → wl_FB_append_28 post' n z0 z1 z2 z3 := by
  intro n
  induction n with
  | zero => intro z0 z1 z2 z3 h; exact h
  | succ n ih =>
    intro z0 z1 z2 z3
    unfold wl_FB_append_28
    repeat' with_reducible first | exact h_post _ _ | exact ih _ _ _ _ | refine q_mb ?_ ?_ | refine q_ma (fun _ => ?_) | refine q_me (fun _ => ?_) | refine q_mi ?_ | exact id
theorem mn_wp_FB_append {post post' : Bool → gMem → Prop} {a0 : Int32} {a1 : Int64} {M : gMem} (h_post : ∀ y0 y1, post y0 y1 → post' y0 y1) : wp_FB_append post a0 a1 M → wp_FB_append post' a0 a1 M := by
  unfold wp_FB_append
  repeat' with_reducible first | exact h_post _ _ | refine mn_wl_FB_append_28 (fun _ _ => ?_) _ _ _ _ _ | refine q_mb ?_ ?_ | refine q_ma (fun _ => ?_) | refine q_me (fun _ => ?_) | refine q_mi ?_ | exact id
theorem mn_wp_OF_feed {post post' : Bool → gMem → Prop} {a0 : Int32} {a1 : Int64} {M : gMem} (h_post : ∀ y0 y1, post y0 y1 → post' y0 y1) : wp_OF_feed post a0 a1 M → wp_OF_feed post' a0 a1 M := by
  unfold wp_OF_feed
  repeat' with_reducible first | exact h_post _ _ | refine mn_wp_FB_append (fun _ _ => ?_) | refine q_mb ?_ ?_ | refine q_ma (fun _ => ?_) | refine q_me (fun _ => ?_) | refine q_mi ?_ | exact id
theorem mn_wp_OF_cut {post post' : Bool → gMem → Prop} {a0 : Int32} {M : gMem} (h_post : ∀ y0 y1, post y0 y1 → post' y0 y1) : wp_OF_cut post a0 M → wp_OF_cut post' a0 M := by
  unfold wp_OF_cut
  repeat' with_reducible first | exact h_post _ _ | refine q_mb ?_ ?_ | refine q_ma (fun _ => ?_) | refine q_me (fun _ => ?_) | refine q_mi ?_ | exact id
theorem mn_wp_OF_spoil {post post' : Int32 → gMem → Prop} {a0 : Int32} {a1 : Int32} {M : gMem} (h_post : ∀ y0 y1, post y0 y1 → post' y0 y1) : wp_OF_spoil post a0 a1 M → wp_OF_spoil post' a0 a1 M := by
  unfold wp_OF_spoil
  repeat' with_reducible first | exact h_post _ _ | refine mn_wp_FB_has (fun _ _ => ?_) | refine mn_wp_FB_u1 (fun _ _ => ?_) | refine mn_wp_FB_put1 (fun _ => ?_) | refine q_mb ?_ ?_ | refine q_ma (fun _ => ?_) | refine q_me (fun _ => ?_) | refine q_mi ?_ | exact id
theorem mn_wp_FB_u2 {post post' : Int32 → gMem → Prop} {a0 : Int32} {M : gMem} (h_post : ∀ y0 y1, post y0 y1 → post' y0 y1) : wp_FB_u2 post a0 M → wp_FB_u2 post' a0 M := by
  unfold wp_FB_u2
  repeat' with_reducible first | exact h_post _ _ | refine q_mb ?_ ?_ | refine q_ma (fun _ => ?_) | refine q_me (fun _ => ?_) | refine q_mi ?_ | exact id
theorem mn_wp_FI_tell {post post' : Int32 → gMem → Prop} {a0 : Int32} {a1 : Int32} {M : gMem} (h_post : ∀ y0 y1, post y0 y1 → post' y0 y1) : wp_FI_tell post a0 a1 M → wp_FI_tell post' a0 a1 M := by
  unfold wp_FI_tell
  repeat' with_reducible first | exact h_post _ _ | refine q_mb ?_ ?_ | refine q_ma (fun _ => ?_) | refine q_me (fun _ => ?_) | refine q_mi ?_ | exact id
theorem mn_wl_DI_markFault_111 {post post' : Int32 → gMem → Prop}  (h_post : ∀ y0 y1, post y0 y1 → post' y0 y1) : ∀ (n : Nat) (z0 : Int32) (z1 : gMem), wl_DI_markFault_111 post n z0 z1 → wl_DI_markFault_111 post' n z0 z1 := by
  intro n
  induction n with
  | zero => intro z0 z1 h; exact h
  | succ n ih =>
    intro z0 z1
    unfold wl_DI_markFault_111
    repeat' with_reducible first | exact h_post _ _ | exact ih _ _ | refine mn_wp_FB_u2 (fun _ _ => ?_) | refine mn_wp_FI_tell (fun _ _ => ?_) | refine mn_wp_FB_u1 (fun _ _ => ?_) | refine q_mb ?_ ?_ | refine q_ma (fun _ => ?_) | refine q_me (fun _ => ?_) | refine q_mi ?_ | exact id
theorem mn_wl_DI_markFault_72 {post post' : Int32 → gMem → Prop}  (h_post : ∀ y0 y1, post y0 y1 → post' y0 y1) : ∀ (n : Nat) (z0 : Int32) (z1 : gMem), wl_DI_markFault_72 post n z0 z1 → wl_DI_markFault_72 post' n z0 z1 := by
  intro n
  induction n with
  | zero => intro z0 z1 h; exact h
  | succ n ih =>
    intro z0 z1
    unfold wl_DI_markFault_72
    repeat' with_reducible first | exact h_post _ _ | exact ih _ _ | refine mn_wl_DI_markFault_111 (fun _ _ => ?_) _ _ _ | refine mn_wp_FB_u1 (fun _ _ => ?_) | refine mn_wp_FI_tell (fun _ _ => ?_) | refine q_mb ?_ ?_ | refine q_ma (fun _ => ?_) | refine q_me (fun _ => ?_) | refine q_mi ?_ | exact id
theorem mn_wl_DI_markFault_30 {post post' : Int32 → gMem → Prop}  (h_post : ∀ y0 y1, post y0 y1 → post' y0 y1) : ∀ (n : Nat) (z0 : Int32) (z1 : gMem), wl_DI_markFault_30 post n z0 z1 → wl_DI_markFault_30 post' n z0 z1 := by
  intro n
  induction n with
  | zero => intro z0 z1 h; exact h
  | succ n ih =>
    intro z0 z1
    unfold wl_DI_markFault_30
    repeat' with_reducible first | exact h_post _ _ | exact ih _ _ | refine mn_wl_DI_markFault_72 (fun _ _ => ?_) _ _ _ | refine mn_wp_FB_u1 (fun _ _ => ?_) | refine mn_wp_FI_tell (fun _ _ => ?_) | refine q_mb ?_ ?_ | refine q_ma (fun _ => ?_) | refine q_me (fun _ => ?_) | refine q_mi ?_ | exact id
theorem mn_wp_DI_markFault {post post' : Int32 → gMem → Prop} {M : gMem} (h_post : ∀ y0 y1, post y0 y1 → post' y0 y1) : wp_DI_markFault post M → wp_DI_markFault post' M := by
  unfold wp_DI_markFault
  repeat' with_reducible first | exact h_post _ _ | refine mn_wl_DI_markFault_30 (fun _ _ => ?_) _ _ _ | refine mn_wp_FI_tell (fun _ _ => ?_) | refine q_mb ?_ ?_ | refine q_ma (fun _ => ?_) | refine q_me (fun _ => ?_) | refine q_mi ?_ | exact id
theorem mn_wp_FB_u4 {post post' : Int64 → gMem → Prop} {a0 : Int32} {M : gMem} (h_post : ∀ y0 y1, post y0 y1 → post' y0 y1) : wp_FB_u4 post a0 M → wp_FB_u4 post' a0 M := by
  unfold wp_FB_u4
  repeat' with_reducible first | exact h_post _ _ | refine q_mb ?_ ?_ | refine q_ma (fun _ => ?_) | refine q_me (fun _ => ?_) | refine q_mi ?_ | exact id
theorem mn_wp_DI_wrongEntryCount {post post' : Int32 → gMem → Prop} {M : gMem} (h_post : ∀ y0 y1, post y0 y1 → post' y0 y1) : wp_DI_wrongEntryCount post M → wp_DI_wrongEntryCount post' M := by
  unfold wp_DI_wrongEntryCount
  repeat' with_reducible first | exact h_post _ _ | refine mn_wp_FB_u2 (fun _ _ => ?_) | refine q_mb ?_ ?_ | refine q_ma (fun _ => ?_) | refine q_me (fun _ => ?_) | refine q_mi ?_ | exact id
theorem mn_wp_DI_wrongHeaderNumber {post post' : Int32 → gMem → Prop} {M : gMem} (h_post : ∀ y0 y1, post y0 y1 → post' y0 y1) : wp_DI_wrongHeaderNumber post M → wp_DI_wrongHeaderNumber post' M := by
  unfold wp_DI_wrongHeaderNumber
  repeat' with_reducible first | exact h_post _ _ | refine mn_wp_FB_u4 (fun _ _ => ?_) | refine mn_wp_FB_u2 (fun _ _ => ?_) | refine mn_wp_DI_wrongEntryCount (fun _ _ => ?_) | refine q_mb ?_ ?_ | refine q_ma (fun _ => ?_) | refine q_me (fun _ => ?_) | refine q_mi ?_ | exact id
theorem mn_wp_DI_headerFault {post post' : Int32 → gMem → Prop} {M : gMem} (h_post : ∀ y0 y1, post y0 y1 → post' y0 y1) : wp_DI_headerFault post M → wp_DI_headerFault post' M := by
  unfold wp_DI_headerFault
  repeat' with_reducible first | exact h_post _ _ | refine mn_wp_DI_wrongHeaderNumber (fun _ _ => ?_) | refine mn_wp_FB_u2 (fun _ _ => ?_) | refine mn_wp_FB_u4 (fun _ _ => ?_) | refine mn_wp_FI_tell (fun _ _ => ?_) | refine q_mb ?_ ?_ | refine q_ma (fun _ => ?_) | refine q_me (fun _ => ?_) | refine q_mi ?_ | exact id
theorem mn_wp_DI_numberOf {post post' : Int64 → gMem → Prop} {a0 : Int32} {a1 : Int32} {M : gMem} (h_post : ∀ y0 y1, post y0 y1 → post' y0 y1) : wp_DI_numberOf post a0 a1 M → wp_DI_numberOf post' a0 a1 M := by
  unfold wp_DI_numberOf
  repeat' with_reducible first | exact h_post _ _ | refine mn_wp_FB_u4 (fun _ _ => ?_) | refine q_mb ?_ ?_ | refine q_ma (fun _ => ?_) | refine q_me (fun _ => ?_) | refine q_mi ?_ | exact id
theorem mn_wp_DI_tellEntry {post post' : Int32 → gMem → Prop} {a0 : Int32} {a1 : Int32} {a2 : Int32} {M : gMem} (h_post : ∀ y0 y1, post y0 y1 → post' y0 y1) : wp_DI_tellEntry post a0 a1 a2 M → wp_DI_tellEntry post' a0 a1 a2 M := by
  unfold wp_DI_tellEntry
  repeat' with_reducible first | exact h_post _ _ | refine mn_wp_FI_tell (fun _ _ => ?_) | refine q_mb ?_ ?_ | refine q_ma (fun _ => ?_) | refine q_me (fun _ => ?_) | refine q_mi ?_ | exact id
theorem mn_wj_DI_sharesBytes_74 {post post' : Bool → gMem → Prop} {k34 k34' : Int32 → Int64 → Int64 → Int32 → gMem → Prop} {v1 : Int32} {v2 : Int64} {v4 : Int64} {v6 : Int32} {v7 : Int64} {s0 : Int64} {M : gMem} (h_post : ∀ y0 y1, post y0 y1 → post' y0 y1) (h_k34 : ∀ y0 y1 y2 y3 y4, k34 y0 y1 y2 y3 y4 → k34' y0 y1 y2 y3 y4) : wj_DI_sharesBytes_74 post k34 v1 v2 v4 v6 v7 s0 M → wj_DI_sharesBytes_74 post' k34' v1 v2 v4 v6 v7 s0 M := by
  unfold wj_DI_sharesBytes_74
  repeat' with_reducible first | exact h_post _ _ | exact h_k34 _ _ _ _ _ | refine q_mb ?_ ?_ | refine q_ma (fun _ => ?_) | refine q_me (fun _ => ?_) | refine q_mi ?_ | exact id
theorem mn_wl_DI_sharesBytes_34 {post post' : Bool → gMem → Prop}  (h_post : ∀ y0 y1, post y0 y1 → post' y0 y1) : ∀ (n : Nat) (z0 : Int32) (z1 : Int64) (z2 : Int64) (z3 : Int32) (z4 : gMem), wl_DI_sharesBytes_34 post n z0 z1 z2 z3 z4 → wl_DI_sharesBytes_34 post' n z0 z1 z2 z3 z4 := by
  intro n
  induction n with
  | zero => intro z0 z1 z2 z3 z4 h; exact h
  | succ n ih =>
    intro z0 z1 z2 z3 z4
    unfold wl_DI_sharesBytes_34
    repeat' with_reducible first | exact h_post _ _ | exact ih _ _ _ _ _ | refine mn_wp_DI_numberOf (fun _ _ => ?_) | refine mn_wj_DI_sharesBytes_74 (fun _ _ => ?_) (fun _ _ _ _ _ => ?_) | refine q_mb ?_ ?_ | refine q_ma (fun _ => ?_) | refine q_me (fun _ => ?_) | refine q_mi ?_ | exact id
theorem mn_wp_DI_sharesBytes {post post' : Bool → gMem → Prop} {a0 : Int32} {a1 : Int64} {a2 : Int64} {M : gMem} (h_post : ∀ y0 y1, post y0 y1 → post' y0 y1) : wp_DI_sharesBytes post a0 a1 a2 M → wp_DI_sharesBytes post' a0 a1 a2 M := by
  unfold wp_DI_sharesBytes
  repeat' with_reducible first | exact h_post _ _ | refine mn_wl_DI_sharesBytes_34 (fun _ _ => ?_) _ _ _ _ _ _ | refine q_mb ?_ ?_ | refine q_ma (fun _ => ?_) | refine q_me (fun _ => ?_) | refine q_mi ?_ | exact id
theorem mn_wj_DI_entryFault_157 {post post' : Int32 → gMem → Prop} {v1 : Int32} {v4 : Int32} {v5 : Int64} {v7 : Int64} {M : gMem} (h_post : ∀ y0 y1, post y0 y1 → post' y0 y1) : wj_DI_entryFault_157 post v1 v4 v5 v7 M → wj_DI_entryFault_157 post' v1 v4 v5 v7 M := by
  unfold wj_DI_entryFault_157
  repeat' with_reducible first | exact h_post _ _ | refine mn_wp_DI_sharesBytes (fun _ _ => ?_) | refine mn_wp_DI_tellEntry (fun _ _ => ?_) | refine q_mb ?_ ?_ | refine q_ma (fun _ => ?_) | refine q_me (fun _ => ?_) | refine q_mi ?_ | exact id
theorem mn_wj_DI_entryFault_113 {post post' : Int32 → gMem → Prop} {v1 : Int32} {v4 : Int32} {v5 : Int64} {v7 : Int64} {M : gMem} (h_post : ∀ y0 y1, post y0 y1 → post' y0 y1) : wj_DI_entryFault_113 post v1 v4 v5 v7 M → wj_DI_entryFault_113 post' v1 v4 v5 v7 M := by
  unfold wj_DI_entryFault_113
  repeat' with_reducible first | exact h_post _ _ | refine mn_wp_DI_numberOf (fun _ _ => ?_) | refine mn_wp_OF_isAlignment (fun _ _ => ?_) | refine mn_wp_DI_tellEntry (fun _ _ => ?_) | refine mn_wj_DI_entryFault_157 (fun _ _ => ?_) | refine q_mb ?_ ?_ | refine q_ma (fun _ => ?_) | refine q_me (fun _ => ?_) | refine q_mi ?_ | exact id
theorem mn_wj_DI_entryFault_50 {post post' : Int32 → gMem → Prop} {v1 : Int32} {v4 : Int32} {M : gMem} (h_post : ∀ y0 y1, post y0 y1 → post' y0 y1) : wj_DI_entryFault_50 post v1 v4 M → wj_DI_entryFault_50 post' v1 v4 M := by
  unfold wj_DI_entryFault_50
  repeat' with_reducible first | exact h_post _ _ | refine mn_wp_DI_numberOf (fun _ _ => ?_) | refine mn_wj_DI_entryFault_113 (fun _ _ => ?_) | refine mn_wp_DI_tellEntry (fun _ _ => ?_) | refine q_mb ?_ ?_ | refine q_ma (fun _ => ?_) | refine q_me (fun _ => ?_) | refine q_mi ?_ | exact id
theorem mn_wj_DI_entryFault_20 {post post' : Int32 → gMem → Prop} {v1 : Int32} {v2 : Int64} {s0 : Int32} {M : gMem} (h_post : ∀ y0 y1, post y0 y1 → post' y0 y1) : wj_DI_entryFault_20 post v1 v2 s0 M → wj_DI_entryFault_20 post' v1 v2 s0 M := by
  unfold wj_DI_entryFault_20
  repeat' with_reducible first | exact h_post _ _ | refine mn_wj_DI_entryFault_50 (fun _ _ => ?_) | refine mn_wp_DI_tellEntry (fun _ _ => ?_) | refine q_mb ?_ ?_ | refine q_ma (fun _ => ?_) | refine q_me (fun _ => ?_) | refine q_mi ?_ | exact id
theorem mn_wp_DI_entryFault {post post' : Int32 → gMem → Prop} {a0 : Int32} {M : gMem} (h_post : ∀ y0 y1, post y0 y1 → post' y0 y1) : wp_DI_entryFault post a0 M → wp_DI_entryFault post' a0 M := by
  unfold wp_DI_entryFault
  repeat' with_reducible first | exact h_post _ _ | refine mn_wp_DI_numberOf (fun _ _ => ?_) | refine mn_wj_DI_entryFault_20 (fun _ _ => ?_) | refine q_mb ?_ ?_ | refine q_ma (fun _ => ?_) | refine q_me (fun _ => ?_) | refine q_mi ?_ | exact id
theorem mn_wl_DI_entriesFault_36 {post post' : Int32 → gMem → Prop}  (h_post : ∀ y0 y1, post y0 y1 → post' y0 y1) : ∀ (n : Nat) (z0 : Int32) (z1 : gMem), wl_DI_entriesFault_36 post n z0 z1 → wl_DI_entriesFault_36 post' n z0 z1 := by
  intro n
  induction n with
  | zero => intro z0 z1 h; exact h
  | succ n ih =>
    intro z0 z1
    unfold wl_DI_entriesFault_36
    repeat' with_reducible first | exact h_post _ _ | exact ih _ _ | refine mn_wp_DI_entryFault (fun _ _ => ?_) | refine q_mb ?_ ?_ | refine q_ma (fun _ => ?_) | refine q_me (fun _ => ?_) | refine q_mi ?_ | exact id
theorem mn_wl_DI_entriesFault_2 {post post' : Int32 → gMem → Prop}  (h_post : ∀ y0 y1, post y0 y1 → post' y0 y1) : ∀ (n : Nat) (z0 : Int32) (z1 : gMem), wl_DI_entriesFault_2 post n z0 z1 → wl_DI_entriesFault_2 post' n z0 z1 := by
  intro n
  induction n with
  | zero => intro z0 z1 h; exact h
  | succ n ih =>
    intro z0 z1
    unfold wl_DI_entriesFault_2
    repeat' with_reducible first | exact h_post _ _ | exact ih _ _ | refine mn_wl_DI_entriesFault_36 (fun _ _ => ?_) _ _ _ | refine mn_wp_DI_numberOf (fun _ _ => ?_) | refine mn_wp_DI_tellEntry (fun _ _ => ?_) | refine q_mb ?_ ?_ | refine q_ma (fun _ => ?_) | refine q_me (fun _ => ?_) | refine q_mi ?_ | exact id
theorem mn_wp_DI_entriesFault {post post' : Int32 → gMem → Prop} {M : gMem} (h_post : ∀ y0 y1, post y0 y1 → post' y0 y1) : wp_DI_entriesFault post M → wp_DI_entriesFault post' M := by
  unfold wp_DI_entriesFault
  repeat' with_reducible first | exact h_post _ _ | refine mn_wl_DI_entriesFault_2 (fun _ _ => ?_) _ _ _ | refine q_mb ?_ ?_ | refine q_ma (fun _ => ?_) | refine q_me (fun _ => ?_) | refine q_mi ?_ | exact id
theorem mn_wp_DI_stringsFault {post post' : Int32 → gMem → Prop} {a0 : Int32} {a1 : Int32} {M : gMem} (h_post : ∀ y0 y1, post y0 y1 → post' y0 y1) : wp_DI_stringsFault post a0 a1 M → wp_DI_stringsFault post' a0 a1 M := by
  unfold wp_DI_stringsFault
  repeat' with_reducible first | exact h_post _ _ | refine mn_wp_DI_numberOf (fun _ _ => ?_) | refine mn_wp_FB_u1 (fun _ _ => ?_) | refine mn_wp_FI_tell (fun _ _ => ?_) | refine mn_wp_DI_tellEntry (fun _ _ => ?_) | refine q_mb ?_ ?_ | refine q_ma (fun _ => ?_) | refine q_me (fun _ => ?_) | refine q_mi ?_ | exact id
theorem mn_wl_AR_fill1_35_5 {post post' : gMem → Prop}  (h_post : ∀ y0, post y0 → post' y0) : ∀ (n : Nat) (z0 : Int32) (z1 : Int32) (z2 : Int32) (z3 : gMem), wl_AR_fill1_35_5 post n z0 z1 z2 z3 → wl_AR_fill1_35_5 post' n z0 z1 z2 z3 := by
  intro n
  induction n with
  | zero => intro z0 z1 z2 z3 h; exact h
  | succ n ih =>
    intro z0 z1 z2 z3
    unfold wl_AR_fill1_35_5
    repeat' with_reducible first | exact h_post _ | exact ih _ _ _ _ | refine q_mb ?_ ?_ | refine q_ma (fun _ => ?_) | refine q_me (fun _ => ?_) | refine q_mi ?_ | exact id
theorem mn_wp_AR_fill1_35 {post post' : gMem → Prop} {a1 : Int32} {M : gMem} (h_post : ∀ y0, post y0 → post' y0) : wp_AR_fill1_35 post a1 M → wp_AR_fill1_35 post' a1 M := by
  unfold wp_AR_fill1_35
  repeat' with_reducible first | exact h_post _ | refine mn_wl_AR_fill1_35_5 (fun _ => ?_) _ _ _ _ _ | refine q_mb ?_ ?_ | refine q_ma (fun _ => ?_) | refine q_me (fun _ => ?_) | refine q_mi ?_ | exact id
theorem mn_wl_DI_standsAt_8 {post post' : Bool → gMem → Prop}  (h_post : ∀ y0 y1, post y0 y1 → post' y0 y1) : ∀ (n : Nat) (z0 : Int32) (z1 : Nat) (z2 : Int32) (z3 : Int32) (z4 : gMem), wl_DI_standsAt_8 post n z0 z1 z2 z3 z4 → wl_DI_standsAt_8 post' n z0 z1 z2 z3 z4 := by
  intro n
  induction n with
  | zero => intro z0 z1 z2 z3 z4 h; exact h
  | succ n ih =>
    intro z0 z1 z2 z3 z4
    unfold wl_DI_standsAt_8
    repeat' with_reducible first | exact h_post _ _ | exact ih _ _ _ _ _ | refine mn_wp_FB_u1 (fun _ _ => ?_) | refine q_mb ?_ ?_ | refine q_ma (fun _ => ?_) | refine q_me (fun _ => ?_) | refine q_mi ?_ | exact id
theorem mn_wp_DI_standsAt {post post' : Bool → gMem → Prop} {a0 : Int32} {a1 : Nat} {M : gMem} (h_post : ∀ y0 y1, post y0 y1 → post' y0 y1) : wp_DI_standsAt post a0 a1 M → wp_DI_standsAt post' a0 a1 M := by
  unfold wp_DI_standsAt
  repeat' with_reducible first | exact h_post _ _ | refine mn_wl_DI_standsAt_8 (fun _ _ => ?_) _ _ _ _ _ _ | refine q_mb ?_ ?_ | refine q_ma (fun _ => ?_) | refine q_me (fun _ => ?_) | refine q_mi ?_ | exact id
theorem mn_wl_DI_partNamedBy_40 {post post' : Int32 → gMem → Prop}  (h_post : ∀ y0 y1, post y0 y1 → post' y0 y1) : ∀ (n : Nat) (z0 : Int32) (z1 : Int32) (z2 : gMem), wl_DI_partNamedBy_40 post n z0 z1 z2 → wl_DI_partNamedBy_40 post' n z0 z1 z2 := by
  intro n
  induction n with
  | zero => intro z0 z1 z2 h; exact h
  | succ n ih =>
    intro z0 z1 z2
    unfold wl_DI_partNamedBy_40
    repeat' with_reducible first | exact h_post _ _ | exact ih _ _ _ | refine mn_wp_OF_labelOf (fun _ _ => ?_) | refine mn_wp_DI_standsAt (fun _ _ => ?_) | refine q_mb ?_ ?_ | refine q_ma (fun _ => ?_) | refine q_me (fun _ => ?_) | refine q_mi ?_ | exact id
theorem mn_wp_DI_partNamedBy {post post' : Int32 → gMem → Prop} {a0 : Int32} {M : gMem} (h_post : ∀ y0 y1, post y0 y1 → post' y0 y1) : wp_DI_partNamedBy post a0 M → wp_DI_partNamedBy post' a0 M := by
  unfold wp_DI_partNamedBy
  repeat' with_reducible first | exact h_post _ _ | refine mn_wp_DI_numberOf (fun _ _ => ?_) | refine mn_wl_DI_partNamedBy_40 (fun _ _ => ?_) _ _ _ _ | refine q_mb ?_ ?_ | refine q_ma (fun _ => ?_) | refine q_me (fun _ => ?_) | refine q_mi ?_ | exact id
theorem mn_wl_DI_labelsFault_10 {post post' : Int32 → gMem → Prop}  (h_post : ∀ y0 y1, post y0 y1 → post' y0 y1) : ∀ (n : Nat) (z0 : Int32) (z1 : gMem), wl_DI_labelsFault_10 post n z0 z1 → wl_DI_labelsFault_10 post' n z0 z1 := by
  intro n
  induction n with
  | zero => intro z0 z1 h; exact h
  | succ n ih =>
    intro z0 z1
    unfold wl_DI_labelsFault_10
    repeat' with_reducible first | exact h_post _ _ | exact ih _ _ | refine mn_wp_DI_partNamedBy (fun _ _ => ?_) | refine mn_wp_DI_tellEntry (fun _ _ => ?_) | refine q_mb ?_ ?_ | refine q_ma (fun _ => ?_) | refine q_me (fun _ => ?_) | refine q_mi ?_ | exact id
theorem mn_wp_DI_labelsFault {post post' : Int32 → gMem → Prop} {M : gMem} (h_post : ∀ y0 y1, post y0 y1 → post' y0 y1) : wp_DI_labelsFault post M → wp_DI_labelsFault post' M := by
  unfold wp_DI_labelsFault
  repeat' with_reducible first | exact h_post _ _ | refine mn_wp_AR_fill1_35 (fun _ => ?_) | refine mn_wl_DI_labelsFault_10 (fun _ _ => ?_) _ _ _ | refine q_mb ?_ ?_ | refine q_ma (fun _ => ?_) | refine q_me (fun _ => ?_) | refine q_mi ?_ | exact id
theorem mn_wp_DI_linkIsRight {post post' : Bool → gMem → Prop} {a0 : Int32} {a1 : Int64} {M : gMem} (h_post : ∀ y0 y1, post y0 y1 → post' y0 y1) : wp_DI_linkIsRight post a0 a1 M → wp_DI_linkIsRight post' a0 a1 M := by
  unfold wp_DI_linkIsRight
  repeat' with_reducible first | exact h_post _ _ | refine mn_wp_OF_isRela (fun _ _ => ?_) | refine q_mb ?_ ?_ | refine q_ma (fun _ => ?_) | refine q_me (fun _ => ?_) | refine q_mi ?_ | exact id
theorem mn_wp_DI_infoIsRight {post post' : Bool → gMem → Prop} {a0 : Int32} {a1 : Int64} {M : gMem} (h_post : ∀ y0 y1, post y0 y1 → post' y0 y1) : wp_DI_infoIsRight post a0 a1 M → wp_DI_infoIsRight post' a0 a1 M := by
  unfold wp_DI_infoIsRight
  repeat' with_reducible first | exact h_post _ _ | refine mn_wp_OF_isRela (fun _ _ => ?_) | refine q_mb ?_ ?_ | refine q_ma (fun _ => ?_) | refine q_me (fun _ => ?_) | refine q_mi ?_ | exact id
theorem mn_wp_DI_wrongNumber {post post' : Int32 → gMem → Prop} {a0 : Int32} {a1 : Int32} {M : gMem} (h_post : ∀ y0 y1, post y0 y1 → post' y0 y1) : wp_DI_wrongNumber post a0 a1 M → wp_DI_wrongNumber post' a0 a1 M := by
  unfold wp_DI_wrongNumber
  repeat' with_reducible first | exact h_post _ _ | refine mn_wp_DI_numberOf (fun _ _ => ?_) | refine mn_wp_DI_linkIsRight (fun _ _ => ?_) | refine mn_wp_DI_infoIsRight (fun _ _ => ?_) | refine q_mb ?_ ?_ | refine q_ma (fun _ => ?_) | refine q_me (fun _ => ?_) | refine q_mi ?_ | exact id
theorem mn_wl_DI_numbersFault_2 {post post' : Int32 → gMem → Prop}  (h_post : ∀ y0 y1, post y0 y1 → post' y0 y1) : ∀ (n : Nat) (z0 : Int32) (z1 : gMem), wl_DI_numbersFault_2 post n z0 z1 → wl_DI_numbersFault_2 post' n z0 z1 := by
  intro n
  induction n with
  | zero => intro z0 z1 h; exact h
  | succ n ih =>
    intro z0 z1
    unfold wl_DI_numbersFault_2
    repeat' with_reducible first | exact h_post _ _ | exact ih _ _ | refine mn_wp_DI_wrongNumber (fun _ _ => ?_) | refine mn_wp_DI_tellEntry (fun _ _ => ?_) | refine q_mb ?_ ?_ | refine q_ma (fun _ => ?_) | refine q_me (fun _ => ?_) | refine q_mi ?_ | exact id
theorem mn_wp_DI_numbersFault {post post' : Int32 → gMem → Prop} {M : gMem} (h_post : ∀ y0 y1, post y0 y1 → post' y0 y1) : wp_DI_numbersFault post M → wp_DI_numbersFault post' M := by
  unfold wp_DI_numbersFault
  repeat' with_reducible first | exact h_post _ _ | refine mn_wl_DI_numbersFault_2 (fun _ _ => ?_) _ _ _ | refine q_mb ?_ ?_ | refine q_ma (fun _ => ?_) | refine q_me (fun _ => ?_) | refine q_mi ?_ | exact id
theorem mn_wj_DI_missingFault_35 {post post' : Int32 → gMem → Prop} {s0 : Int32} {M : gMem} (h_post : ∀ y0 y1, post y0 y1 → post' y0 y1) : wj_DI_missingFault_35 post s0 M → wj_DI_missingFault_35 post' s0 M := by
  unfold wj_DI_missingFault_35
  repeat' with_reducible first | exact h_post _ _ | refine mn_wp_FI_tell (fun _ _ => ?_) | refine q_mb ?_ ?_ | refine q_ma (fun _ => ?_) | refine q_me (fun _ => ?_) | refine q_mi ?_ | exact id
theorem mn_wj_DI_missingFault_34 {post post' : Int32 → gMem → Prop} {M : gMem} (h_post : ∀ y0 y1, post y0 y1 → post' y0 y1) : wj_DI_missingFault_34 post M → wj_DI_missingFault_34 post' M := by
  unfold wj_DI_missingFault_34
  repeat' with_reducible first | exact h_post _ _ | refine mn_wj_DI_missingFault_35 (fun _ _ => ?_) | refine q_mb ?_ ?_ | refine q_ma (fun _ => ?_) | refine q_me (fun _ => ?_) | refine q_mi ?_ | exact id
theorem mn_wp_DI_missingFault {post post' : Int32 → gMem → Prop} {M : gMem} (h_post : ∀ y0 y1, post y0 y1 → post' y0 y1) : wp_DI_missingFault post M → wp_DI_missingFault post' M := by
  unfold wp_DI_missingFault
  repeat' with_reducible first | exact h_post _ _ | refine mn_wj_DI_missingFault_34 (fun _ _ => ?_) | refine mn_wj_DI_missingFault_35 (fun _ _ => ?_) | refine q_mb ?_ ?_ | refine q_ma (fun _ => ?_) | refine q_me (fun _ => ?_) | refine q_mi ?_ | exact id
theorem mn_wp_DI_lengthMayBe {post post' : Bool → gMem → Prop} {a0 : Int32} {a1 : Int64} {M : gMem} (h_post : ∀ y0 y1, post y0 y1 → post' y0 y1) : wp_DI_lengthMayBe post a0 a1 M → wp_DI_lengthMayBe post' a0 a1 M := by
  unfold wp_DI_lengthMayBe
  repeat' with_reducible first | exact h_post _ _ | refine mn_wp_OF_isRela (fun _ _ => ?_) | refine q_mb ?_ ?_ | refine q_ma (fun _ => ?_) | refine q_me (fun _ => ?_) | refine q_mi ?_ | exact id
theorem mn_wj_DI_lengthsFault_47 {post post' : Int32 → gMem → Prop} {k4 k4' : Int64 → Int32 → gMem → Prop} {v1 : Int64} {v3 : Int32} {v4 : Int64} {M : gMem} (h_post : ∀ y0 y1, post y0 y1 → post' y0 y1) (h_k4 : ∀ y0 y1 y2, k4 y0 y1 y2 → k4' y0 y1 y2) : wj_DI_lengthsFault_47 post k4 v1 v3 v4 M → wj_DI_lengthsFault_47 post' k4' v1 v3 v4 M := by
  unfold wj_DI_lengthsFault_47
  repeat' with_reducible first | exact h_post _ _ | exact h_k4 _ _ _ | refine mn_wp_DI_lengthMayBe (fun _ _ => ?_) | refine mn_wp_DI_tellEntry (fun _ _ => ?_) | refine q_mb ?_ ?_ | refine q_ma (fun _ => ?_) | refine q_me (fun _ => ?_) | refine q_mi ?_ | exact id
theorem mn_wl_DI_lengthsFault_4 {post post' : Int32 → gMem → Prop}  (h_post : ∀ y0 y1, post y0 y1 → post' y0 y1) : ∀ (n : Nat) (z0 : Int64) (z1 : Int32) (z2 : gMem), wl_DI_lengthsFault_4 post n z0 z1 z2 → wl_DI_lengthsFault_4 post' n z0 z1 z2 := by
  intro n
  induction n with
  | zero => intro z0 z1 z2 h; exact h
  | succ n ih =>
    intro z0 z1 z2
    unfold wl_DI_lengthsFault_4
    repeat' with_reducible first | exact h_post _ _ | exact ih _ _ _ | refine mn_wp_DI_numberOf (fun _ _ => ?_) | refine mn_wp_OF_isRela (fun _ _ => ?_) | refine mn_wj_DI_lengthsFault_47 (fun _ _ => ?_) (fun _ _ _ => ?_) | refine q_mb ?_ ?_ | refine q_ma (fun _ => ?_) | refine q_me (fun _ => ?_) | refine q_mi ?_ | exact id
theorem mn_wp_DI_lengthsFault {post post' : Int32 → gMem → Prop} {M : gMem} (h_post : ∀ y0 y1, post y0 y1 → post' y0 y1) : wp_DI_lengthsFault post M → wp_DI_lengthsFault post' M := by
  unfold wp_DI_lengthsFault
  repeat' with_reducible first | exact h_post _ _ | refine mn_wl_DI_lengthsFault_4 (fun _ _ => ?_) _ _ _ _ | refine q_mb ?_ ?_ | refine q_ma (fun _ => ?_) | refine q_me (fun _ => ?_) | refine q_mi ?_ | exact id
theorem mn_wj_DI_locateParts_56 {post post' : gMem → Prop} {k2 k2' : Int32 → gMem → Prop} {v1 : Int32} {v2 : Int32} {s0 : Int32} {s1 : Int32} {M : gMem} (h_post : ∀ y0, post y0 → post' y0) (h_k2 : ∀ y0 y1, k2 y0 y1 → k2' y0 y1) : wj_DI_locateParts_56 post k2 v1 v2 s0 s1 M → wj_DI_locateParts_56 post' k2' v1 v2 s0 s1 M := by
  unfold wj_DI_locateParts_56
  repeat' with_reducible first | exact h_post _ | exact h_k2 _ _ | refine mn_wp_DI_numberOf (fun _ _ => ?_) | refine q_mb ?_ ?_ | refine q_ma (fun _ => ?_) | refine q_me (fun _ => ?_) | refine q_mi ?_ | exact id
theorem mn_wj_DI_locateParts_35 {post post' : gMem → Prop} {k2 k2' : Int32 → gMem → Prop} {v1 : Int32} {v2 : Int32} {s0 : Int32} {s1 : Int32} {M : gMem} (h_post : ∀ y0, post y0 → post' y0) (h_k2 : ∀ y0 y1, k2 y0 y1 → k2' y0 y1) : wj_DI_locateParts_35 post k2 v1 v2 s0 s1 M → wj_DI_locateParts_35 post' k2' v1 v2 s0 s1 M := by
  unfold wj_DI_locateParts_35
  repeat' with_reducible first | exact h_post _ | exact h_k2 _ _ | refine mn_wp_DI_numberOf (fun _ _ => ?_) | refine mn_wj_DI_locateParts_56 (fun _ => ?_) (fun _ _ => ?_) | refine q_mb ?_ ?_ | refine q_ma (fun _ => ?_) | refine q_me (fun _ => ?_) | refine q_mi ?_ | exact id
theorem mn_wl_DI_locateParts_2 {post post' : gMem → Prop}  (h_post : ∀ y0, post y0 → post' y0) : ∀ (n : Nat) (z0 : Int32) (z1 : gMem), wl_DI_locateParts_2 post n z0 z1 → wl_DI_locateParts_2 post' n z0 z1 := by
  intro n
  induction n with
  | zero => intro z0 z1 h; exact h
  | succ n ih =>
    intro z0 z1
    unfold wl_DI_locateParts_2
    repeat' with_reducible first | exact h_post _ | exact ih _ _ | refine mn_wp_DI_numberOf (fun _ _ => ?_) | refine mn_wj_DI_locateParts_35 (fun _ => ?_) (fun _ _ => ?_) | refine q_mb ?_ ?_ | refine q_ma (fun _ => ?_) | refine q_me (fun _ => ?_) | refine q_mi ?_ | exact id
theorem mn_wp_DI_locateParts {post post' : gMem → Prop} {M : gMem} (h_post : ∀ y0, post y0 → post' y0) : wp_DI_locateParts post M → wp_DI_locateParts post' M := by
  unfold wp_DI_locateParts
  repeat' with_reducible first | exact h_post _ | refine mn_wl_DI_locateParts_2 (fun _ => ?_) _ _ _ | refine q_mb ?_ ?_ | refine q_ma (fun _ => ?_) | refine q_me (fun _ => ?_) | refine q_mi ?_ | exact id
theorem mn_wj_DI_firstFault_123 {post post' : Int32 → gMem → Prop} {s0 : Int32} {M : gMem} (h_post : ∀ y0 y1, post y0 y1 → post' y0 y1) : wj_DI_firstFault_123 post s0 M → wj_DI_firstFault_123 post' s0 M := by
  unfold wj_DI_firstFault_123
  repeat' with_reducible first | exact h_post _ _ | refine mn_wp_DI_locateParts (fun _ => ?_) | refine q_mb ?_ ?_ | refine q_ma (fun _ => ?_) | refine q_me (fun _ => ?_) | refine q_mi ?_ | exact id
theorem mn_wj_DI_firstFault_101 {post post' : Int32 → gMem → Prop} {s0 : Int32} {M : gMem} (h_post : ∀ y0 y1, post y0 y1 → post' y0 y1) : wj_DI_firstFault_101 post s0 M → wj_DI_firstFault_101 post' s0 M := by
  unfold wj_DI_firstFault_101
  repeat' with_reducible first | exact h_post _ _ | refine mn_wp_DI_stringsFault (fun _ _ => ?_) | refine mn_wj_DI_firstFault_123 (fun _ _ => ?_) | refine q_mb ?_ ?_ | refine q_ma (fun _ => ?_) | refine q_me (fun _ => ?_) | refine q_mi ?_ | exact id
theorem mn_wj_DI_firstFault_88 {post post' : Int32 → gMem → Prop} {s0 : Int32} {M : gMem} (h_post : ∀ y0 y1, post y0 y1 → post' y0 y1) : wj_DI_firstFault_88 post s0 M → wj_DI_firstFault_88 post' s0 M := by
  unfold wj_DI_firstFault_88
  repeat' with_reducible first | exact h_post _ _ | refine mn_wp_DI_lengthsFault (fun _ _ => ?_) | refine mn_wj_DI_firstFault_101 (fun _ _ => ?_) | refine q_mb ?_ ?_ | refine q_ma (fun _ => ?_) | refine q_me (fun _ => ?_) | refine q_mi ?_ | exact id
theorem mn_wj_DI_firstFault_75 {post post' : Int32 → gMem → Prop} {s0 : Int32} {M : gMem} (h_post : ∀ y0 y1, post y0 y1 → post' y0 y1) : wj_DI_firstFault_75 post s0 M → wj_DI_firstFault_75 post' s0 M := by
  unfold wj_DI_firstFault_75
  repeat' with_reducible first | exact h_post _ _ | refine mn_wp_DI_missingFault (fun _ _ => ?_) | refine mn_wj_DI_firstFault_88 (fun _ _ => ?_) | refine q_mb ?_ ?_ | refine q_ma (fun _ => ?_) | refine q_me (fun _ => ?_) | refine q_mi ?_ | exact id
theorem mn_wj_DI_firstFault_62 {post post' : Int32 → gMem → Prop} {s0 : Int32} {M : gMem} (h_post : ∀ y0 y1, post y0 y1 → post' y0 y1) : wj_DI_firstFault_62 post s0 M → wj_DI_firstFault_62 post' s0 M := by
  unfold wj_DI_firstFault_62
  repeat' with_reducible first | exact h_post _ _ | refine mn_wp_DI_numbersFault (fun _ _ => ?_) | refine mn_wj_DI_firstFault_75 (fun _ _ => ?_) | refine q_mb ?_ ?_ | refine q_ma (fun _ => ?_) | refine q_me (fun _ => ?_) | refine q_mi ?_ | exact id
theorem mn_wj_DI_firstFault_49 {post post' : Int32 → gMem → Prop} {s0 : Int32} {M : gMem} (h_post : ∀ y0 y1, post y0 y1 → post' y0 y1) : wj_DI_firstFault_49 post s0 M → wj_DI_firstFault_49 post' s0 M := by
  unfold wj_DI_firstFault_49
  repeat' with_reducible first | exact h_post _ _ | refine mn_wp_DI_labelsFault (fun _ _ => ?_) | refine mn_wj_DI_firstFault_62 (fun _ _ => ?_) | refine q_mb ?_ ?_ | refine q_ma (fun _ => ?_) | refine q_me (fun _ => ?_) | refine q_mi ?_ | exact id
theorem mn_wj_DI_firstFault_30 {post post' : Int32 → gMem → Prop} {s0 : Int32} {M : gMem} (h_post : ∀ y0 y1, post y0 y1 → post' y0 y1) : wj_DI_firstFault_30 post s0 M → wj_DI_firstFault_30 post' s0 M := by
  unfold wj_DI_firstFault_30
  repeat' with_reducible first | exact h_post _ _ | refine mn_wp_DI_stringsFault (fun _ _ => ?_) | refine mn_wj_DI_firstFault_49 (fun _ _ => ?_) | refine q_mb ?_ ?_ | refine q_ma (fun _ => ?_) | refine q_me (fun _ => ?_) | refine q_mi ?_ | exact id
theorem mn_wj_DI_firstFault_17 {post post' : Int32 → gMem → Prop} {s0 : Int32} {M : gMem} (h_post : ∀ y0 y1, post y0 y1 → post' y0 y1) : wj_DI_firstFault_17 post s0 M → wj_DI_firstFault_17 post' s0 M := by
  unfold wj_DI_firstFault_17
  repeat' with_reducible first | exact h_post _ _ | refine mn_wp_DI_entriesFault (fun _ _ => ?_) | refine mn_wj_DI_firstFault_30 (fun _ _ => ?_) | refine q_mb ?_ ?_ | refine q_ma (fun _ => ?_) | refine q_me (fun _ => ?_) | refine q_mi ?_ | exact id
theorem mn_wp_DI_firstFault {post post' : Int32 → gMem → Prop} {M : gMem} (h_post : ∀ y0 y1, post y0 y1 → post' y0 y1) : wp_DI_firstFault post M → wp_DI_firstFault post' M := by
  unfold wp_DI_firstFault
  repeat' with_reducible first | exact h_post _ _ | refine mn_wp_DI_markFault (fun _ _ => ?_) | refine mn_wp_DI_headerFault (fun _ _ => ?_) | refine mn_wj_DI_firstFault_17 (fun _ _ => ?_) | refine q_mb ?_ ?_ | refine q_ma (fun _ => ?_) | refine q_me (fun _ => ?_) | refine q_mi ?_ | exact id
theorem mn_wl_AR_fill1_11_5 {post post' : gMem → Prop}  (h_post : ∀ y0, post y0 → post' y0) : ∀ (n : Nat) (z0 : Int32) (z1 : Int32) (z2 : Int32) (z3 : gMem), wl_AR_fill1_11_5 post n z0 z1 z2 z3 → wl_AR_fill1_11_5 post' n z0 z1 z2 z3 := by
  intro n
  induction n with
  | zero => intro z0 z1 z2 z3 h; exact h
  | succ n ih =>
    intro z0 z1 z2 z3
    unfold wl_AR_fill1_11_5
    repeat' with_reducible first | exact h_post _ | exact ih _ _ _ _ | refine q_mb ?_ ?_ | refine q_ma (fun _ => ?_) | refine q_me (fun _ => ?_) | refine q_mi ?_ | exact id
theorem mn_wp_AR_fill1_11 {post post' : gMem → Prop} {a1 : Int32} {M : gMem} (h_post : ∀ y0, post y0 → post' y0) : wp_AR_fill1_11 post a1 M → wp_AR_fill1_11 post' a1 M := by
  unfold wp_AR_fill1_11
  repeat' with_reducible first | exact h_post _ | refine mn_wl_AR_fill1_11_5 (fun _ => ?_) _ _ _ _ _ | refine q_mb ?_ ?_ | refine q_ma (fun _ => ?_) | refine q_me (fun _ => ?_) | refine q_mi ?_ | exact id
theorem mn_wl_AR_fill1_12_5 {post post' : gMem → Prop}  (h_post : ∀ y0, post y0 → post' y0) : ∀ (n : Nat) (z0 : Int32) (z1 : Int32) (z2 : Int32) (z3 : gMem), wl_AR_fill1_12_5 post n z0 z1 z2 z3 → wl_AR_fill1_12_5 post' n z0 z1 z2 z3 := by
  intro n
  induction n with
  | zero => intro z0 z1 z2 z3 h; exact h
  | succ n ih =>
    intro z0 z1 z2 z3
    unfold wl_AR_fill1_12_5
    repeat' with_reducible first | exact h_post _ | exact ih _ _ _ _ | refine q_mb ?_ ?_ | refine q_ma (fun _ => ?_) | refine q_me (fun _ => ?_) | refine q_mi ?_ | exact id
theorem mn_wp_AR_fill1_12 {post post' : gMem → Prop} {a1 : Int32} {M : gMem} (h_post : ∀ y0, post y0 → post' y0) : wp_AR_fill1_12 post a1 M → wp_AR_fill1_12 post' a1 M := by
  unfold wp_AR_fill1_12
  repeat' with_reducible first | exact h_post _ | refine mn_wl_AR_fill1_12_5 (fun _ => ?_) _ _ _ _ _ | refine q_mb ?_ ?_ | refine q_ma (fun _ => ?_) | refine q_me (fun _ => ?_) | refine q_mi ?_ | exact id
theorem mn_wp_CT_reset_s {post post' : gMem → Prop} {M : gMem} (h_post : ∀ y0, post y0 → post' y0) : wp_CT_reset_s post M → wp_CT_reset_s post' M := by
  unfold wp_CT_reset_s
  repeat' with_reducible first | exact h_post _ | refine mn_wp_AR_fill1_11 (fun _ => ?_) | refine mn_wp_AR_fill1_12 (fun _ => ?_) | refine q_mb ?_ ?_ | refine q_ma (fun _ => ?_) | refine q_me (fun _ => ?_) | refine q_mi ?_ | exact id
theorem mn_wp_RE_symbolRows {post post' : Int32 → gMem → Prop} {M : gMem} (h_post : ∀ y0 y1, post y0 y1 → post' y0 y1) : wp_RE_symbolRows post M → wp_RE_symbolRows post' M := by
  unfold wp_RE_symbolRows
  repeat' with_reducible first | exact h_post _ _ | refine q_mb ?_ ?_ | refine q_ma (fun _ => ?_) | refine q_me (fun _ => ?_) | refine q_mi ?_ | exact id
theorem mn_wp_RE_symbolNumber {post post' : Int32 → gMem → Prop} {a0 : Int32} {M : gMem} (h_post : ∀ y0 y1, post y0 y1 → post' y0 y1) : wp_RE_symbolNumber post a0 M → wp_RE_symbolNumber post' a0 M := by
  unfold wp_RE_symbolNumber
  repeat' with_reducible first | exact h_post _ _ | refine mn_wp_FB_u4 (fun _ _ => ?_) | refine q_mb ?_ ?_ | refine q_ma (fun _ => ?_) | refine q_me (fun _ => ?_) | refine q_mi ?_ | exact id
theorem mn_wp_CT_addRelocation_s {post post' : Int32 → gMem → Prop} {a0 : Int32} {a1 : Int32} {a2 : Int32} {a3 : Int32} {a4 : Int32} {M : gMem} (h_post : ∀ y0 y1, post y0 y1 → post' y0 y1) : wp_CT_addRelocation_s post a0 a1 a2 a3 a4 M → wp_CT_addRelocation_s post' a0 a1 a2 a3 a4 M := by
  unfold wp_CT_addRelocation_s
  repeat' with_reducible first | exact h_post _ _ | refine q_mb ?_ ?_ | refine q_ma (fun _ => ?_) | refine q_me (fun _ => ?_) | refine q_mi ?_ | exact id
theorem mn_wl_RE_fillRelocations_9_30 {post post' : gMem → Prop}  (h_post : ∀ y0, post y0 → post' y0) : ∀ (n : Nat) (z0 : Int32) (z1 : Int32) (z2 : Int32) (z3 : gMem), wl_RE_fillRelocations_9_30 post n z0 z1 z2 z3 → wl_RE_fillRelocations_9_30 post' n z0 z1 z2 z3 := by
  intro n
  induction n with
  | zero => intro z0 z1 z2 z3 h; exact h
  | succ n ih =>
    intro z0 z1 z2 z3
    unfold wl_RE_fillRelocations_9_30
    repeat' with_reducible first | exact h_post _ | exact ih _ _ _ _ | refine mn_wp_RE_symbolNumber (fun _ _ => ?_) | refine mn_wp_FB_u4 (fun _ _ => ?_) | refine mn_wp_FB_u1 (fun _ _ => ?_) | refine mn_wp_CT_addRelocation_s (fun _ _ => ?_) | refine q_mb ?_ ?_ | refine q_ma (fun _ => ?_) | refine q_me (fun _ => ?_) | refine q_mi ?_ | exact id
theorem mn_wp_RE_fillRelocations_9 {post post' : gMem → Prop} {a1 : Int32} {M : gMem} (h_post : ∀ y0, post y0 → post' y0) : wp_RE_fillRelocations_9 post a1 M → wp_RE_fillRelocations_9 post' a1 M := by
  unfold wp_RE_fillRelocations_9
  repeat' with_reducible first | exact h_post _ | refine mn_wl_RE_fillRelocations_9_30 (fun _ => ?_) _ _ _ _ _ | refine q_mb ?_ ?_ | refine q_ma (fun _ => ?_) | refine q_me (fun _ => ?_) | refine q_mi ?_ | exact id
theorem mn_wp_RE_nameSpot {post post' : Int32 → gMem → Prop} {a0 : Int32} {M : gMem} (h_post : ∀ y0 y1, post y0 y1 → post' y0 y1) : wp_RE_nameSpot post a0 M → wp_RE_nameSpot post' a0 M := by
  unfold wp_RE_nameSpot
  repeat' with_reducible first | exact h_post _ _ | refine mn_wp_FB_u4 (fun _ _ => ?_) | refine q_mb ?_ ?_ | refine q_ma (fun _ => ?_) | refine q_me (fun _ => ?_) | refine q_mi ?_ | exact id
theorem mn_wl_RE_nameLength_33 {post post' : Int32 → gMem → Prop}  (h_post : ∀ y0 y1, post y0 y1 → post' y0 y1) : ∀ (n : Nat) (z0 : Int32) (z1 : Int32) (z2 : gMem), wl_RE_nameLength_33 post n z0 z1 z2 → wl_RE_nameLength_33 post' n z0 z1 z2 := by
  intro n
  induction n with
  | zero => intro z0 z1 z2 h; exact h
  | succ n ih =>
    intro z0 z1 z2
    unfold wl_RE_nameLength_33
    repeat' with_reducible first | exact h_post _ _ | exact ih _ _ _ | refine mn_wp_FB_u1 (fun _ _ => ?_) | refine mn_wp_OF_isNameCharacter (fun _ _ => ?_) | refine q_mb ?_ ?_ | refine q_ma (fun _ => ?_) | refine q_me (fun _ => ?_) | refine q_mi ?_ | exact id
theorem mn_wp_RE_nameLength {post post' : Int32 → gMem → Prop} {a0 : Int32} {M : gMem} (h_post : ∀ y0 y1, post y0 y1 → post' y0 y1) : wp_RE_nameLength post a0 M → wp_RE_nameLength post' a0 M := by
  unfold wp_RE_nameLength
  repeat' with_reducible first | exact h_post _ _ | refine mn_wp_FB_u4 (fun _ _ => ?_) | refine mn_wp_RE_nameSpot (fun _ _ => ?_) | refine mn_wl_RE_nameLength_33 (fun _ _ => ?_) _ _ _ _ | refine q_mb ?_ ?_ | refine q_ma (fun _ => ?_) | refine q_me (fun _ => ?_) | refine q_mi ?_ | exact id
theorem mn_wp_CT_addSymbol_s_18 {post post' : Int32 → gMem → Prop} {a1 : Int32} {a2 : Int32} {M : gMem} (h_post : ∀ y0 y1, post y0 y1 → post' y0 y1) : wp_CT_addSymbol_s_18 post a1 a2 M → wp_CT_addSymbol_s_18 post' a1 a2 M := by
  unfold wp_CT_addSymbol_s_18
  repeat' with_reducible first | exact h_post _ _ | refine q_mb ?_ ?_ | refine q_ma (fun _ => ?_) | refine q_me (fun _ => ?_) | refine q_mi ?_ | exact id
theorem mn_wp_DI_sectionOf {post post' : Int32 → gMem → Prop} {a0 : Int32} {M : gMem} (h_post : ∀ y0 y1, post y0 y1 → post' y0 y1) : wp_DI_sectionOf post a0 M → wp_DI_sectionOf post' a0 M := by
  unfold wp_DI_sectionOf
  repeat' with_reducible first | exact h_post _ _ | refine q_mb ?_ ?_ | refine q_ma (fun _ => ?_) | refine q_me (fun _ => ?_) | refine q_mi ?_ | exact id
theorem mn_wp_RE_whereOf {post post' : Int32 → gMem → Prop} {a0 : Int32} {M : gMem} (h_post : ∀ y0 y1, post y0 y1 → post' y0 y1) : wp_RE_whereOf post a0 M → wp_RE_whereOf post' a0 M := by
  unfold wp_RE_whereOf
  repeat' with_reducible first | exact h_post _ _ | refine mn_wp_FB_u2 (fun _ _ => ?_) | refine mn_wp_DI_sectionOf (fun _ _ => ?_) | refine q_mb ?_ ?_ | refine q_ma (fun _ => ?_) | refine q_me (fun _ => ?_) | refine q_mi ?_ | exact id
theorem mn_wp_RE_bindOf {post post' : Int32 → gMem → Prop} {a0 : Int32} {M : gMem} (h_post : ∀ y0 y1, post y0 y1 → post' y0 y1) : wp_RE_bindOf post a0 M → wp_RE_bindOf post' a0 M := by
  unfold wp_RE_bindOf
  repeat' with_reducible first | exact h_post _ _ | refine mn_wp_FB_u1 (fun _ _ => ?_) | refine q_mb ?_ ?_ | refine q_ma (fun _ => ?_) | refine q_me (fun _ => ?_) | refine q_mi ?_ | exact id
theorem mn_wp_RE_typeOf {post post' : Int32 → gMem → Prop} {a0 : Int32} {M : gMem} (h_post : ∀ y0 y1, post y0 y1 → post' y0 y1) : wp_RE_typeOf post a0 M → wp_RE_typeOf post' a0 M := by
  unfold wp_RE_typeOf
  repeat' with_reducible first | exact h_post _ _ | refine mn_wp_FB_u1 (fun _ _ => ?_) | refine q_mb ?_ ?_ | refine q_ma (fun _ => ?_) | refine q_me (fun _ => ?_) | refine q_mi ?_ | exact id
theorem mn_wp_CT_tellSymbol_s {post post' : gMem → Prop} {a0 : Int32} {a1 : Int32} {a2 : Int32} {a3 : Int32} {a4 : Int32} {a5 : Int32} {M : gMem} (h_post : ∀ y0, post y0 → post' y0) : wp_CT_tellSymbol_s post a0 a1 a2 a3 a4 a5 M → wp_CT_tellSymbol_s post' a0 a1 a2 a3 a4 a5 M := by
  unfold wp_CT_tellSymbol_s
  repeat' with_reducible first | exact h_post _ | refine q_mb ?_ ?_ | refine q_ma (fun _ => ?_) | refine q_me (fun _ => ?_) | refine q_mi ?_ | exact id
theorem mn_wp_RE_fillSymbol_9 {post post' : gMem → Prop} {a1 : Int32} {M : gMem} (h_post : ∀ y0, post y0 → post' y0) : wp_RE_fillSymbol_9 post a1 M → wp_RE_fillSymbol_9 post' a1 M := by
  unfold wp_RE_fillSymbol_9
  repeat' with_reducible first | exact h_post _ | refine mn_wp_RE_nameSpot (fun _ _ => ?_) | refine mn_wp_RE_nameLength (fun _ _ => ?_) | refine mn_wp_CT_addSymbol_s_18 (fun _ _ => ?_) | refine mn_wp_FB_u4 (fun _ _ => ?_) | refine mn_wp_RE_whereOf (fun _ _ => ?_) | refine mn_wp_RE_bindOf (fun _ _ => ?_) | refine mn_wp_RE_typeOf (fun _ _ => ?_) | refine mn_wp_CT_tellSymbol_s (fun _ => ?_) | refine q_mb ?_ ?_ | refine q_ma (fun _ => ?_) | refine q_me (fun _ => ?_) | refine q_mi ?_ | exact id
theorem mn_wp_CT_addStart_s {post post' : Bool → gMem → Prop} {a0 : Int32} {M : gMem} (h_post : ∀ y0 y1, post y0 y1 → post' y0 y1) : wp_CT_addStart_s post a0 M → wp_CT_addStart_s post' a0 M := by
  unfold wp_CT_addStart_s
  repeat' with_reducible first | exact h_post _ _ | refine q_mb ?_ ?_ | refine q_ma (fun _ => ?_) | refine q_me (fun _ => ?_) | refine q_mi ?_ | exact id
theorem mn_wp_FB_copyOut_10 {post post' : gMem → Prop} {a0 : Int32} {a2 : Int32} {a3 : Int32} {M : gMem} (h_post : ∀ y0, post y0 → post' y0) : wp_FB_copyOut_10 post a0 a2 a3 M → wp_FB_copyOut_10 post' a0 a2 a3 M := by
  unfold wp_FB_copyOut_10
  repeat' with_reducible first | exact h_post _ | refine q_mb ?_ ?_ | refine q_ma (fun _ => ?_) | refine q_me (fun _ => ?_) | refine q_mi ?_ | exact id
theorem mn_wl_RE_fill_9_191 {post post' : gMem → Prop}  (h_post : ∀ y0, post y0 → post' y0) : ∀ (n : Nat) (z0 : Int32) (z1 : gMem), wl_RE_fill_9_191 post n z0 z1 → wl_RE_fill_9_191 post' n z0 z1 := by
  intro n
  induction n with
  | zero => intro z0 z1 h; exact h
  | succ n ih =>
    intro z0 z1
    unfold wl_RE_fill_9_191
    repeat' with_reducible first | exact h_post _ | exact ih _ _ | refine mn_wp_RE_fillRelocations_9 (fun _ => ?_) | refine q_mb ?_ ?_ | refine q_ma (fun _ => ?_) | refine q_me (fun _ => ?_) | refine q_mi ?_ | exact id
theorem mn_wl_RE_fill_9_154 {post post' : gMem → Prop}  (h_post : ∀ y0, post y0 → post' y0) : ∀ (n : Nat) (z0 : Int32) (z1 : Int32) (z2 : gMem), wl_RE_fill_9_154 post n z0 z1 z2 → wl_RE_fill_9_154 post' n z0 z1 z2 := by
  intro n
  induction n with
  | zero => intro z0 z1 z2 h; exact h
  | succ n ih =>
    intro z0 z1 z2
    unfold wl_RE_fill_9_154
    repeat' with_reducible first | exact h_post _ | exact ih _ _ _ | refine mn_wl_RE_fill_9_191 (fun _ => ?_) _ _ _ | refine mn_wp_RE_fillSymbol_9 (fun _ => ?_) | refine q_mb ?_ ?_ | refine q_ma (fun _ => ?_) | refine q_me (fun _ => ?_) | refine q_mi ?_ | exact id
theorem mn_wl_RE_fill_9_119 {post post' : gMem → Prop}  (h_post : ∀ y0, post y0 → post' y0) : ∀ (n : Nat) (z0 : Int32) (z1 : Int32) (z2 : gMem), wl_RE_fill_9_119 post n z0 z1 z2 → wl_RE_fill_9_119 post' n z0 z1 z2 := by
  intro n
  induction n with
  | zero => intro z0 z1 z2 h; exact h
  | succ n ih =>
    intro z0 z1 z2
    unfold wl_RE_fill_9_119
    repeat' with_reducible first | exact h_post _ | exact ih _ _ _ | refine mn_wp_RE_symbolRows (fun _ _ => ?_) | refine mn_wl_RE_fill_9_154 (fun _ => ?_) _ _ _ _ | refine mn_wp_FB_u2 (fun _ _ => ?_) | refine mn_wp_CT_addStart_s (fun _ _ => ?_) | refine q_mb ?_ ?_ | refine q_ma (fun _ => ?_) | refine q_me (fun _ => ?_) | refine q_mi ?_ | exact id
theorem mn_wl_RE_fill_9_49 {post post' : gMem → Prop}  (h_post : ∀ y0, post y0 → post' y0) : ∀ (n : Nat) (z0 : Int32) (z1 : gMem), wl_RE_fill_9_49 post n z0 z1 → wl_RE_fill_9_49 post' n z0 z1 := by
  intro n
  induction n with
  | zero => intro z0 z1 h; exact h
  | succ n ih =>
    intro z0 z1
    unfold wl_RE_fill_9_49
    repeat' with_reducible first | exact h_post _ | exact ih _ _ | refine mn_wl_RE_fill_9_119 (fun _ => ?_) _ _ _ _ | refine mn_wp_FB_copyOut_10 (fun _ => ?_) | refine q_mb ?_ ?_ | refine q_ma (fun _ => ?_) | refine q_me (fun _ => ?_) | refine q_mi ?_ | exact id
theorem mn_wl_RE_fill_9_6 {post post' : gMem → Prop}  (h_post : ∀ y0, post y0 → post' y0) : ∀ (n : Nat) (z0 : Int32) (z1 : gMem), wl_RE_fill_9_6 post n z0 z1 → wl_RE_fill_9_6 post' n z0 z1 := by
  intro n
  induction n with
  | zero => intro z0 z1 h; exact h
  | succ n ih =>
    intro z0 z1
    unfold wl_RE_fill_9_6
    repeat' with_reducible first | exact h_post _ | exact ih _ _ | refine mn_wl_RE_fill_9_49 (fun _ => ?_) _ _ _ | refine q_mb ?_ ?_ | refine q_ma (fun _ => ?_) | refine q_me (fun _ => ?_) | refine q_mi ?_ | exact id
theorem mn_wp_RE_fill_9 {post post' : gMem → Prop} {M : gMem} (h_post : ∀ y0, post y0 → post' y0) : wp_RE_fill_9 post M → wp_RE_fill_9 post' M := by
  unfold wp_RE_fill_9
  repeat' with_reducible first | exact h_post _ | refine mn_wp_CT_reset_s (fun _ => ?_) | refine mn_wl_RE_fill_9_6 (fun _ => ?_) _ _ _ | refine q_mb ?_ ?_ | refine q_ma (fun _ => ?_) | refine q_me (fun _ => ?_) | refine q_mi ?_ | exact id
theorem mn_wj_RE_flawIn_28 {post post' : Int32 → gMem → Prop} {v1 : Int32} {v2 : Int32} {s0 : Int32} {M : gMem} (h_post : ∀ y0 y1, post y0 y1 → post' y0 y1) : wj_RE_flawIn_28 post v1 v2 s0 M → wj_RE_flawIn_28 post' v1 v2 s0 M := by
  unfold wj_RE_flawIn_28
  repeat' with_reducible first | exact h_post _ _ | refine mn_wp_FB_u4 (fun _ _ => ?_) | refine mn_wp_RE_bindOf (fun _ _ => ?_) | refine mn_wp_OF_flawOf (fun _ _ => ?_) | refine q_mb ?_ ?_ | refine q_ma (fun _ => ?_) | refine q_me (fun _ => ?_) | refine q_mi ?_ | exact id
theorem mn_wj_RE_flawIn_27 {post post' : Int32 → gMem → Prop} {v1 : Int32} {v2 : Int32} {M : gMem} (h_post : ∀ y0 y1, post y0 y1 → post' y0 y1) : wj_RE_flawIn_27 post v1 v2 M → wj_RE_flawIn_27 post' v1 v2 M := by
  unfold wj_RE_flawIn_27
  repeat' with_reducible first | exact h_post _ _ | refine mn_wj_RE_flawIn_28 (fun _ _ => ?_) | refine q_mb ?_ ?_ | refine q_ma (fun _ => ?_) | refine q_me (fun _ => ?_) | refine q_mi ?_ | exact id
theorem mn_wp_RE_flawIn {post post' : Int32 → gMem → Prop} {a0 : Int32} {M : gMem} (h_post : ∀ y0 y1, post y0 y1 → post' y0 y1) : wp_RE_flawIn post a0 M → wp_RE_flawIn post' a0 M := by
  unfold wp_RE_flawIn
  repeat' with_reducible first | exact h_post _ _ | refine mn_wp_RE_whereOf (fun _ _ => ?_) | refine mn_wj_RE_flawIn_27 (fun _ _ => ?_) | refine mn_wj_RE_flawIn_28 (fun _ _ => ?_) | refine q_mb ?_ ?_ | refine q_ma (fun _ => ?_) | refine q_me (fun _ => ?_) | refine q_mi ?_ | exact id
theorem mn_wl_RE_haveSameName_2 {post post' : Bool → gMem → Prop}  (h_post : ∀ y0 y1, post y0 y1 → post' y0 y1) : ∀ (n : Nat) (z0 : Int32) (z1 : Int32) (z2 : Int32) (z3 : gMem), wl_RE_haveSameName_2 post n z0 z1 z2 z3 → wl_RE_haveSameName_2 post' n z0 z1 z2 z3 := by
  intro n
  induction n with
  | zero => intro z0 z1 z2 z3 h; exact h
  | succ n ih =>
    intro z0 z1 z2 z3
    unfold wl_RE_haveSameName_2
    repeat' with_reducible first | exact h_post _ _ | exact ih _ _ _ _ | refine mn_wp_FB_u1 (fun _ _ => ?_) | refine q_mb ?_ ?_ | refine q_ma (fun _ => ?_) | refine q_me (fun _ => ?_) | refine q_mi ?_ | exact id
theorem mn_wp_RE_haveSameName {post post' : Bool → gMem → Prop} {a0 : Int32} {a1 : Int32} {M : gMem} (h_post : ∀ y0 y1, post y0 y1 → post' y0 y1) : wp_RE_haveSameName post a0 a1 M → wp_RE_haveSameName post' a0 a1 M := by
  unfold wp_RE_haveSameName
  repeat' with_reducible first | exact h_post _ _ | refine mn_wl_RE_haveSameName_2 (fun _ _ => ?_) _ _ _ _ _ | refine q_mb ?_ ?_ | refine q_ma (fun _ => ?_) | refine q_me (fun _ => ?_) | refine q_mi ?_ | exact id
theorem mn_wl_RE_isNamedBefore_14 {post post' : Bool → gMem → Prop}  (h_post : ∀ y0 y1, post y0 y1 → post' y0 y1) : ∀ (n : Nat) (z0 : Int32) (z1 : Int32) (z2 : Int32) (z3 : gMem), wl_RE_isNamedBefore_14 post n z0 z1 z2 z3 → wl_RE_isNamedBefore_14 post' n z0 z1 z2 z3 := by
  intro n
  induction n with
  | zero => intro z0 z1 z2 z3 h; exact h
  | succ n ih =>
    intro z0 z1 z2 z3
    unfold wl_RE_isNamedBefore_14
    repeat' with_reducible first | exact h_post _ _ | exact ih _ _ _ _ | refine mn_wp_RE_nameSpot (fun _ _ => ?_) | refine mn_wp_RE_haveSameName (fun _ _ => ?_) | refine q_mb ?_ ?_ | refine q_ma (fun _ => ?_) | refine q_me (fun _ => ?_) | refine q_mi ?_ | exact id
theorem mn_wp_RE_isNamedBefore {post post' : Bool → gMem → Prop} {a0 : Int32} {a1 : Int32} {M : gMem} (h_post : ∀ y0 y1, post y0 y1 → post' y0 y1) : wp_RE_isNamedBefore post a0 a1 M → wp_RE_isNamedBefore post' a0 a1 M := by
  unfold wp_RE_isNamedBefore
  repeat' with_reducible first | exact h_post _ _ | refine mn_wp_RE_nameSpot (fun _ _ => ?_) | refine mn_wl_RE_isNamedBefore_14 (fun _ _ => ?_) _ _ _ _ _ | refine q_mb ?_ ?_ | refine q_ma (fun _ => ?_) | refine q_me (fun _ => ?_) | refine q_mi ?_ | exact id
theorem mn_wj_RE_symbolFault_44 {post post' : Int32 → gMem → Prop} {v2 : Int32} {M : gMem} (h_post : ∀ y0 y1, post y0 y1 → post' y0 y1) : wj_RE_symbolFault_44 post v2 M → wj_RE_symbolFault_44 post' v2 M := by
  unfold wj_RE_symbolFault_44
  repeat' with_reducible first | exact h_post _ _ | refine mn_wp_FI_tell (fun _ _ => ?_) | refine q_mb ?_ ?_ | refine q_ma (fun _ => ?_) | refine q_me (fun _ => ?_) | refine q_mi ?_ | exact id
theorem mn_wj_RE_symbolFault_128 {post post' : Int32 → gMem → Prop} {v1 : Int32} {v2 : Int32} {v3 : Int32} {s0 : Int32} {s1 : Int32} {M : gMem} (h_post : ∀ y0 y1, post y0 y1 → post' y0 y1) : wj_RE_symbolFault_128 post v1 v2 v3 s0 s1 M → wj_RE_symbolFault_128 post' v1 v2 v3 s0 s1 M := by
  unfold wj_RE_symbolFault_128
  repeat' with_reducible first | exact h_post _ _ | refine mn_wp_RE_whereOf (fun _ _ => ?_) | refine mn_wp_RE_flawIn (fun _ _ => ?_) | refine mn_wp_RE_isNamedBefore (fun _ _ => ?_) | refine mn_wp_FI_tell (fun _ _ => ?_) | refine q_mb ?_ ?_ | refine q_ma (fun _ => ?_) | refine q_me (fun _ => ?_) | refine q_mi ?_ | exact id
theorem mn_wj_RE_symbolFault_114 {post post' : Int32 → gMem → Prop} {v1 : Int32} {v2 : Int32} {v3 : Int32} {M : gMem} (h_post : ∀ y0 y1, post y0 y1 → post' y0 y1) : wj_RE_symbolFault_114 post v1 v2 v3 M → wj_RE_symbolFault_114 post' v1 v2 v3 M := by
  unfold wj_RE_symbolFault_114
  repeat' with_reducible first | exact h_post _ _ | refine mn_wj_RE_symbolFault_128 (fun _ _ => ?_) | refine q_mb ?_ ?_ | refine q_ma (fun _ => ?_) | refine q_me (fun _ => ?_) | refine q_mi ?_ | exact id
theorem mn_wp_RE_symbolFault {post post' : Int32 → gMem → Prop} {a0 : Int32} {a1 : Int32} {M : gMem} (h_post : ∀ y0 y1, post y0 y1 → post' y0 y1) : wp_RE_symbolFault post a0 a1 M → wp_RE_symbolFault post' a0 a1 M := by
  unfold wp_RE_symbolFault
  repeat' with_reducible first | exact h_post _ _ | refine mn_wp_RE_nameLength (fun _ _ => ?_) | refine mn_wp_RE_bindOf (fun _ _ => ?_) | refine mn_wp_OF_isBindOrType (fun _ _ => ?_) | refine mn_wj_RE_symbolFault_44 (fun _ _ => ?_) | refine mn_wp_RE_typeOf (fun _ _ => ?_) | refine mn_wp_FB_u1 (fun _ _ => ?_) | refine mn_wj_RE_symbolFault_114 (fun _ _ => ?_) | refine mn_wp_FI_tell (fun _ _ => ?_) | refine q_mb ?_ ?_ | refine q_ma (fun _ => ?_) | refine q_me (fun _ => ?_) | refine q_mi ?_ | exact id
theorem mn_wl_RE_symbolsFault_61 {post post' : Int32 → gMem → Prop}  (h_post : ∀ y0 y1, post y0 y1 → post' y0 y1) : ∀ (n : Nat) (z0 : Int32) (z1 : Int32) (z2 : Int32) (z3 : gMem), wl_RE_symbolsFault_61 post n z0 z1 z2 z3 → wl_RE_symbolsFault_61 post' n z0 z1 z2 z3 := by
  intro n
  induction n with
  | zero => intro z0 z1 z2 z3 h; exact h
  | succ n ih =>
    intro z0 z1 z2 z3
    unfold wl_RE_symbolsFault_61
    repeat' with_reducible first | exact h_post _ _ | exact ih _ _ _ _ | refine mn_wp_DI_numberOf (fun _ _ => ?_) | refine mn_wp_DI_tellEntry (fun _ _ => ?_) | refine mn_wp_RE_symbolFault (fun _ _ => ?_) | refine q_mb ?_ ?_ | refine q_ma (fun _ => ?_) | refine q_me (fun _ => ?_) | refine q_mi ?_ | exact id
theorem mn_wl_RE_symbolsFault_13 {post post' : Int32 → gMem → Prop}  (h_post : ∀ y0 y1, post y0 y1 → post' y0 y1) : ∀ (n : Nat) (z0 : Int32) (z1 : Int32) (z2 : gMem), wl_RE_symbolsFault_13 post n z0 z1 z2 → wl_RE_symbolsFault_13 post' n z0 z1 z2 := by
  intro n
  induction n with
  | zero => intro z0 z1 z2 h; exact h
  | succ n ih =>
    intro z0 z1 z2
    unfold wl_RE_symbolsFault_13
    repeat' with_reducible first | exact h_post _ _ | exact ih _ _ _ | refine mn_wp_RE_symbolRows (fun _ _ => ?_) | refine mn_wl_RE_symbolsFault_61 (fun _ _ => ?_) _ _ _ _ _ | refine mn_wp_FB_u1 (fun _ _ => ?_) | refine mn_wp_FI_tell (fun _ _ => ?_) | refine q_mb ?_ ?_ | refine q_ma (fun _ => ?_) | refine q_me (fun _ => ?_) | refine q_mi ?_ | exact id
theorem mn_wp_RE_symbolsFault {post post' : Int32 → gMem → Prop} {M : gMem} (h_post : ∀ y0 y1, post y0 y1 → post' y0 y1) : wp_RE_symbolsFault post M → wp_RE_symbolsFault post' M := by
  unfold wp_RE_symbolsFault
  repeat' with_reducible first | exact h_post _ _ | refine mn_wl_RE_symbolsFault_13 (fun _ _ => ?_) _ _ _ _ | refine q_mb ?_ ?_ | refine q_ma (fun _ => ?_) | refine q_me (fun _ => ?_) | refine q_mi ?_ | exact id
theorem mn_wj_RE_relocationFault_65 {post post' : Int32 → gMem → Prop} {v2 : Int32} {M : gMem} (h_post : ∀ y0 y1, post y0 y1 → post' y0 y1) : wj_RE_relocationFault_65 post v2 M → wj_RE_relocationFault_65 post' v2 M := by
  unfold wj_RE_relocationFault_65
  repeat' with_reducible first | exact h_post _ _ | refine mn_wp_FI_tell (fun _ _ => ?_) | refine q_mb ?_ ?_ | refine q_ma (fun _ => ?_) | refine q_me (fun _ => ?_) | refine q_mi ?_ | exact id
theorem mn_wj_RE_relocationFault_150 {post post' : Int32 → gMem → Prop} {v2 : Int32} {s0 : Int32} {M : gMem} (h_post : ∀ y0 y1, post y0 y1 → post' y0 y1) : wj_RE_relocationFault_150 post v2 s0 M → wj_RE_relocationFault_150 post' v2 s0 M := by
  unfold wj_RE_relocationFault_150
  repeat' with_reducible first | exact h_post _ _ | refine mn_wp_FI_tell (fun _ _ => ?_) | refine q_mb ?_ ?_ | refine q_ma (fun _ => ?_) | refine q_me (fun _ => ?_) | refine q_mi ?_ | exact id
theorem mn_wj_RE_relocationFault_62 {post post' : Int32 → gMem → Prop} {v1 : Int32} {v2 : Int32} {v3 : Int32} {s0 : Int32} {s1 : Int32} {M : gMem} (h_post : ∀ y0 y1, post y0 y1 → post' y0 y1) : wj_RE_relocationFault_62 post v1 v2 v3 s0 s1 M → wj_RE_relocationFault_62 post' v1 v2 v3 s0 s1 M := by
  unfold wj_RE_relocationFault_62
  repeat' with_reducible first | exact h_post _ _ | refine mn_wp_FB_u4 (fun _ _ => ?_) | refine mn_wp_OF_addendMayBe (fun _ _ => ?_) | refine mn_wp_OF_widthOf (fun _ _ => ?_) | refine mn_wj_RE_relocationFault_150 (fun _ _ => ?_) | refine mn_wp_FI_tell (fun _ _ => ?_) | refine mn_wj_RE_relocationFault_65 (fun _ _ => ?_) | refine q_mb ?_ ?_ | refine q_ma (fun _ => ?_) | refine q_me (fun _ => ?_) | refine q_mi ?_ | exact id
theorem mn_wp_RE_relocationFault {post post' : Int32 → gMem → Prop} {a0 : Int32} {a1 : Int32} {M : gMem} (h_post : ∀ y0 y1, post y0 y1 → post' y0 y1) : wp_RE_relocationFault post a0 a1 M → wp_RE_relocationFault post' a0 a1 M := by
  unfold wp_RE_relocationFault
  repeat' with_reducible first | exact h_post _ _ | refine mn_wp_FB_u1 (fun _ _ => ?_) | refine mn_wp_OF_kindMayBeIn (fun _ _ => ?_) | refine mn_wp_RE_symbolNumber (fun _ _ => ?_) | refine mn_wp_RE_symbolRows (fun _ _ => ?_) | refine mn_wj_RE_relocationFault_65 (fun _ _ => ?_) | refine mn_wp_OF_hasSymbol (fun _ _ => ?_) | refine mn_wj_RE_relocationFault_62 (fun _ _ => ?_) | refine mn_wp_FI_tell (fun _ _ => ?_) | refine q_mb ?_ ?_ | refine q_ma (fun _ => ?_) | refine q_me (fun _ => ?_) | refine q_mi ?_ | exact id
theorem mn_wl_RE_relocationsFault_36 {post post' : Int32 → gMem → Prop} {k2 k2' : Int32 → gMem → Prop}  (h_post : ∀ y0 y1, post y0 y1 → post' y0 y1) (h_k2 : ∀ y0 y1, k2 y0 y1 → k2' y0 y1) : ∀ (n : Nat) (z0 : Int32) (z1 : Int32) (z2 : Int32) (z3 : gMem), wl_RE_relocationsFault_36 post k2 n z0 z1 z2 z3 → wl_RE_relocationsFault_36 post' k2' n z0 z1 z2 z3 := by
  intro n
  induction n with
  | zero => intro z0 z1 z2 z3 h; exact h
  | succ n ih =>
    intro z0 z1 z2 z3
    unfold wl_RE_relocationsFault_36
    repeat' with_reducible first | exact h_post _ _ | exact h_k2 _ _ | exact ih _ _ _ _ | refine mn_wp_RE_relocationFault (fun _ _ => ?_) | refine q_mb ?_ ?_ | refine q_ma (fun _ => ?_) | refine q_me (fun _ => ?_) | refine q_mi ?_ | exact id
theorem mn_wl_RE_relocationsFault_2 {post post' : Int32 → gMem → Prop}  (h_post : ∀ y0 y1, post y0 y1 → post' y0 y1) : ∀ (n : Nat) (z0 : Int32) (z1 : gMem), wl_RE_relocationsFault_2 post n z0 z1 → wl_RE_relocationsFault_2 post' n z0 z1 := by
  intro n
  induction n with
  | zero => intro z0 z1 h; exact h
  | succ n ih =>
    intro z0 z1
    unfold wl_RE_relocationsFault_2
    repeat' with_reducible first | exact h_post _ _ | exact ih _ _ | refine mn_wl_RE_relocationsFault_36 (fun _ _ => ?_) (fun _ _ => ?_) _ _ _ _ _ | refine q_mb ?_ ?_ | refine q_ma (fun _ => ?_) | refine q_me (fun _ => ?_) | refine q_mi ?_ | exact id
theorem mn_wp_RE_relocationsFault {post post' : Int32 → gMem → Prop} {M : gMem} (h_post : ∀ y0 y1, post y0 y1 → post' y0 y1) : wp_RE_relocationsFault post M → wp_RE_relocationsFault post' M := by
  unfold wp_RE_relocationsFault
  repeat' with_reducible first | exact h_post _ _ | refine mn_wl_RE_relocationsFault_2 (fun _ _ => ?_) _ _ _ | refine q_mb ?_ ?_ | refine q_ma (fun _ => ?_) | refine q_me (fun _ => ?_) | refine q_mi ?_ | exact id
theorem mn_wj_RE_startsFault_158 {post post' : Int32 → gMem → Prop} {s0 : Int32} {s1 : Int32} {M : gMem} (h_post : ∀ y0 y1, post y0 y1 → post' y0 y1) : wj_RE_startsFault_158 post s0 s1 M → wj_RE_startsFault_158 post' s0 s1 M := by
  unfold wj_RE_startsFault_158
  repeat' with_reducible first | exact h_post _ _ | refine mn_wp_FI_tell (fun _ _ => ?_) | refine q_mb ?_ ?_ | refine q_ma (fun _ => ?_) | refine q_me (fun _ => ?_) | refine q_mi ?_ | exact id
theorem mn_wl_RE_startsFault_41 {post post' : Int32 → gMem → Prop}  (h_post : ∀ y0 y1, post y0 y1 → post' y0 y1) : ∀ (n : Nat) (z0 : Int32) (z1 : Int32) (z2 : Int32) (z3 : Int32) (z4 : Int32) (z5 : gMem), wl_RE_startsFault_41 post n z0 z1 z2 z3 z4 z5 → wl_RE_startsFault_41 post' n z0 z1 z2 z3 z4 z5 := by
  intro n
  induction n with
  | zero => intro z0 z1 z2 z3 z4 z5 h; exact h
  | succ n ih =>
    intro z0 z1 z2 z3 z4 z5
    unfold wl_RE_startsFault_41
    repeat' with_reducible first | exact h_post _ _ | exact ih _ _ _ _ _ _ | refine mn_wp_FB_u4 (fun _ _ => ?_) | refine mn_wj_RE_startsFault_158 (fun _ _ => ?_) | refine mn_wp_FB_u2 (fun _ _ => ?_) | refine mn_wp_FI_tell (fun _ _ => ?_) | refine mn_wp_FB_u1 (fun _ _ => ?_) | refine mn_wp_OF_isShort (fun _ _ => ?_) | refine q_mb ?_ ?_ | refine q_ma (fun _ => ?_) | refine q_me (fun _ => ?_) | refine q_mi ?_ | exact id
theorem mn_wp_RE_startsFault {post post' : Int32 → gMem → Prop} {M : gMem} (h_post : ∀ y0 y1, post y0 y1 → post' y0 y1) : wp_RE_startsFault post M → wp_RE_startsFault post' M := by
  unfold wp_RE_startsFault
  repeat' with_reducible first | exact h_post _ _ | refine mn_wl_RE_startsFault_41 (fun _ _ => ?_) _ _ _ _ _ _ _ | refine q_mb ?_ ?_ | refine q_ma (fun _ => ?_) | refine q_me (fun _ => ?_) | refine q_mi ?_ | exact id
theorem mn_wj_RE_firstFault_17 {post post' : Int32 → gMem → Prop} {s0 : Int32} {M : gMem} (h_post : ∀ y0 y1, post y0 y1 → post' y0 y1) : wj_RE_firstFault_17 post s0 M → wj_RE_firstFault_17 post' s0 M := by
  unfold wj_RE_firstFault_17
  repeat' with_reducible first | exact h_post _ _ | refine mn_wp_RE_startsFault (fun _ _ => ?_) | refine q_mb ?_ ?_ | refine q_ma (fun _ => ?_) | refine q_me (fun _ => ?_) | refine q_mi ?_ | exact id
theorem mn_wp_RE_firstFault {post post' : Int32 → gMem → Prop} {M : gMem} (h_post : ∀ y0 y1, post y0 y1 → post' y0 y1) : wp_RE_firstFault post M → wp_RE_firstFault post' M := by
  unfold wp_RE_firstFault
  repeat' with_reducible first | exact h_post _ _ | refine mn_wp_RE_symbolsFault (fun _ _ => ?_) | refine mn_wp_RE_relocationsFault (fun _ _ => ?_) | refine mn_wj_RE_firstFault_17 (fun _ _ => ?_) | refine q_mb ?_ ?_ | refine q_ma (fun _ => ?_) | refine q_me (fun _ => ?_) | refine q_mi ?_ | exact id
theorem mn_wj_OF_read_28 {post post' : Int32 → gMem → Prop} {v1 : Int32} {M : gMem} (h_post : ∀ y0 y1, post y0 y1 → post' y0 y1) : wj_OF_read_28 post v1 M → wj_OF_read_28 post' v1 M := by
  unfold wj_OF_read_28
  repeat' with_reducible first | exact h_post _ _ | refine mn_wp_RE_fill_9 (fun _ => ?_) | refine q_mb ?_ ?_ | refine q_ma (fun _ => ?_) | refine q_me (fun _ => ?_) | refine q_mi ?_ | exact id
theorem mn_wp_OF_read {post post' : Int32 → gMem → Prop} {M : gMem} (h_post : ∀ y0 y1, post y0 y1 → post' y0 y1) : wp_OF_read post M → wp_OF_read post' M := by
  unfold wp_OF_read
  repeat' with_reducible first | exact h_post _ _ | refine mn_wp_DI_firstFault (fun _ _ => ?_) | refine mn_wj_OF_read_28 (fun _ _ => ?_) | refine mn_wp_RE_firstFault (fun _ _ => ?_) | refine q_mb ?_ ?_ | refine q_ma (fun _ => ?_) | refine q_me (fun _ => ?_) | refine q_mi ?_ | exact id
theorem mn_wp_OF_place {post post' : Int32 → gMem → Prop} {M : gMem} (h_post : ∀ y0 y1, post y0 y1 → post' y0 y1) : wp_OF_place post M → wp_OF_place post' M := by
  unfold wp_OF_place
  repeat' with_reducible first | exact h_post _ _ | refine q_mb ?_ ?_ | refine q_ma (fun _ => ?_) | refine q_me (fun _ => ?_) | refine q_mi ?_ | exact id
theorem mn_wp_CT_copyAll_m_9 {post post' : gMem → Prop} {M : gMem} (h_post : ∀ y0, post y0 → post' y0) : wp_CT_copyAll_m_9 post M → wp_CT_copyAll_m_9 post' M := by
  unfold wp_CT_copyAll_m_9
  repeat' with_reducible first | exact h_post _ | refine q_mb ?_ ?_ | refine q_ma (fun _ => ?_) | refine q_me (fun _ => ?_) | refine q_mi ?_ | exact id
theorem mn_wp_OF_keep {post post' : gMem → Prop} {M : gMem} (h_post : ∀ y0, post y0 → post' y0) : wp_OF_keep post M → wp_OF_keep post' M := by
  unfold wp_OF_keep
  repeat' with_reducible first | exact h_post _ | refine mn_wp_CT_copyAll_m_9 (fun _ => ?_) | refine q_mb ?_ ?_ | refine q_ma (fun _ => ?_) | refine q_me (fun _ => ?_) | refine q_mi ?_ | exact id
theorem mn_wp_OF_section {post post' : Int32 → gMem → Prop} {a0 : Int32} {a1 : Int32} {M : gMem} (h_post : ∀ y0 y1, post y0 y1 → post' y0 y1) : wp_OF_section post a0 a1 M → wp_OF_section post' a0 a1 M := by
  unfold wp_OF_section
  repeat' with_reducible first | exact h_post _ _ | refine q_mb ?_ ?_ | refine q_ma (fun _ => ?_) | refine q_me (fun _ => ?_) | refine q_mi ?_ | exact id
theorem mn_wp_CT_byteOf_s {post post' : Int32 → gMem → Prop} {a0 : Int32} {a1 : Int32} {M : gMem} (h_post : ∀ y0 y1, post y0 y1 → post' y0 y1) : wp_CT_byteOf_s post a0 a1 M → wp_CT_byteOf_s post' a0 a1 M := by
  unfold wp_CT_byteOf_s
  repeat' with_reducible first | exact h_post _ _ | refine q_mb ?_ ?_ | refine q_ma (fun _ => ?_) | refine q_me (fun _ => ?_) | refine q_mi ?_ | exact id
theorem mn_wp_OF_at {post post' : Int32 → gMem → Prop} {a0 : Int32} {a1 : Int32} {M : gMem} (h_post : ∀ y0 y1, post y0 y1 → post' y0 y1) : wp_OF_at post a0 a1 M → wp_OF_at post' a0 a1 M := by
  unfold wp_OF_at
  repeat' with_reducible first | exact h_post _ _ | refine mn_wp_CT_byteOf_s (fun _ _ => ?_) | refine q_mb ?_ ?_ | refine q_ma (fun _ => ?_) | refine q_me (fun _ => ?_) | refine q_mi ?_ | exact id
theorem mn_wp_CT_startOf_s {post post' : Int32 → gMem → Prop} {a0 : Int32} {M : gMem} (h_post : ∀ y0 y1, post y0 y1 → post' y0 y1) : wp_CT_startOf_s post a0 M → wp_CT_startOf_s post' a0 M := by
  unfold wp_CT_startOf_s
  repeat' with_reducible first | exact h_post _ _ | refine q_mb ?_ ?_ | refine q_ma (fun _ => ?_) | refine q_me (fun _ => ?_) | refine q_mi ?_ | exact id
theorem mn_wl_CT_shortStarts_s_4 {post post' : Int32 → gMem → Prop}  (h_post : ∀ y0 y1, post y0 y1 → post' y0 y1) : ∀ (n : Nat) (z0 : Int32) (z1 : Int32) (z2 : gMem), wl_CT_shortStarts_s_4 post n z0 z1 z2 → wl_CT_shortStarts_s_4 post' n z0 z1 z2 := by
  intro n
  induction n with
  | zero => intro z0 z1 z2 h; exact h
  | succ n ih =>
    intro z0 z1 z2
    unfold wl_CT_shortStarts_s_4
    repeat' with_reducible first | exact h_post _ _ | exact ih _ _ _ | refine mn_wp_CT_startOf_s (fun _ _ => ?_) | refine mn_wp_CT_byteOf_s (fun _ _ => ?_) | refine mn_wp_OF_isShort (fun _ _ => ?_) | refine q_mb ?_ ?_ | refine q_ma (fun _ => ?_) | refine q_me (fun _ => ?_) | refine q_mi ?_ | exact id
theorem mn_wp_CT_shortStarts_s {post post' : Int32 → gMem → Prop} {M : gMem} (h_post : ∀ y0 y1, post y0 y1 → post' y0 y1) : wp_CT_shortStarts_s post M → wp_CT_shortStarts_s post' M := by
  unfold wp_CT_shortStarts_s
  repeat' with_reducible first | exact h_post _ _ | refine mn_wl_CT_shortStarts_s_4 (fun _ _ => ?_) _ _ _ _ | refine q_mb ?_ ?_ | refine q_ma (fun _ => ?_) | refine q_me (fun _ => ?_) | refine q_mi ?_ | exact id
theorem mn_wp_OF_count {post post' : Int32 → gMem → Prop} {a0 : Int32} {M : gMem} (h_post : ∀ y0 y1, post y0 y1 → post' y0 y1) : wp_OF_count post a0 M → wp_OF_count post' a0 M := by
  unfold wp_OF_count
  repeat' with_reducible first | exact h_post _ _ | refine mn_wp_CT_shortStarts_s (fun _ _ => ?_) | refine q_mb ?_ ?_ | refine q_ma (fun _ => ?_) | refine q_me (fun _ => ?_) | refine q_mi ?_ | exact id
theorem mn_wp_OF_startAt {post post' : Int32 → gMem → Prop} {a0 : Int32} {M : gMem} (h_post : ∀ y0 y1, post y0 y1 → post' y0 y1) : wp_OF_startAt post a0 M → wp_OF_startAt post' a0 M := by
  unfold wp_OF_startAt
  repeat' with_reducible first | exact h_post _ _ | refine mn_wp_CT_startOf_s (fun _ _ => ?_) | refine q_mb ?_ ?_ | refine q_ma (fun _ => ?_) | refine q_me (fun _ => ?_) | refine q_mi ?_ | exact id
theorem mn_wp_CT_symbolFact_s {post post' : Int32 → gMem → Prop} {a0 : Int32} {a1 : Int32} {M : gMem} (h_post : ∀ y0 y1, post y0 y1 → post' y0 y1) : wp_CT_symbolFact_s post a0 a1 M → wp_CT_symbolFact_s post' a0 a1 M := by
  unfold wp_CT_symbolFact_s
  repeat' with_reducible first | exact h_post _ _ | refine q_mb ?_ ?_ | refine q_ma (fun _ => ?_) | refine q_me (fun _ => ?_) | refine q_mi ?_ | exact id
theorem mn_wp_CT_nameCharacter_s {post post' : Int32 → gMem → Prop} {a0 : Int32} {a1 : Int32} {M : gMem} (h_post : ∀ y0 y1, post y0 y1 → post' y0 y1) : wp_CT_nameCharacter_s post a0 a1 M → wp_CT_nameCharacter_s post' a0 a1 M := by
  unfold wp_CT_nameCharacter_s
  repeat' with_reducible first | exact h_post _ _ | refine mn_wp_CT_symbolFact_s (fun _ _ => ?_) | refine q_mb ?_ ?_ | refine q_ma (fun _ => ?_) | refine q_me (fun _ => ?_) | refine q_mi ?_ | exact id
theorem mn_wp_OF_symbolAt {post post' : Int32 → gMem → Prop} {a0 : Int32} {a1 : Int32} {M : gMem} (h_post : ∀ y0 y1, post y0 y1 → post' y0 y1) : wp_OF_symbolAt post a0 a1 M → wp_OF_symbolAt post' a0 a1 M := by
  unfold wp_OF_symbolAt
  repeat' with_reducible first | exact h_post _ _ | refine mn_wp_CT_nameCharacter_s (fun _ _ => ?_) | refine mn_wp_CT_symbolFact_s (fun _ _ => ?_) | refine q_mb ?_ ?_ | refine q_ma (fun _ => ?_) | refine q_me (fun _ => ?_) | refine q_mi ?_ | exact id
theorem mn_wp_CT_relocationFact_s {post post' : Int32 → gMem → Prop} {a0 : Int32} {a1 : Int32} {M : gMem} (h_post : ∀ y0 y1, post y0 y1 → post' y0 y1) : wp_CT_relocationFact_s post a0 a1 M → wp_CT_relocationFact_s post' a0 a1 M := by
  unfold wp_CT_relocationFact_s
  repeat' with_reducible first | exact h_post _ _ | refine q_mb ?_ ?_ | refine q_ma (fun _ => ?_) | refine q_me (fun _ => ?_) | refine q_mi ?_ | exact id
theorem mn_wp_OF_relocationAt {post post' : Int32 → gMem → Prop} {a0 : Int32} {a1 : Int32} {M : gMem} (h_post : ∀ y0 y1, post y0 y1 → post' y0 y1) : wp_OF_relocationAt post a0 a1 M → wp_OF_relocationAt post' a0 a1 M := by
  unfold wp_OF_relocationAt
  repeat' with_reducible first | exact h_post _ _ | refine mn_wp_CT_relocationFact_s (fun _ _ => ?_) | refine q_mb ?_ ?_ | refine q_ma (fun _ => ?_) | refine q_me (fun _ => ?_) | refine q_mi ?_ | exact id
theorem mn_wp_MO_letterOf {post post' : gMem → Prop} {a0 : Int32} {M : gMem} (h_post : ∀ y0, post y0 → post' y0) : wp_MO_letterOf post a0 M → wp_MO_letterOf post' a0 M := by
  unfold wp_MO_letterOf
  repeat' with_reducible first | exact h_post _ | refine q_mb ?_ ?_ | refine q_ma (fun _ => ?_) | refine q_me (fun _ => ?_) | refine q_mi ?_ | exact id
theorem mn_wj_MO_title_102 {post post' : gMem → Prop} {v9 : Int32} {M : gMem} (h_post : ∀ y0, post y0 → post' y0) : wj_MO_title_102 post v9 M → wj_MO_title_102 post' v9 M := by
  unfold wj_MO_title_102
  repeat' with_reducible first | exact h_post _ | refine mn_wp_MO_letterOf (fun _ => ?_) | refine q_mb ?_ ?_ | refine q_ma (fun _ => ?_) | refine q_me (fun _ => ?_) | refine q_mi ?_ | exact id
theorem mn_wj_MO_title_91 {post post' : gMem → Prop} {v8 : Int32} {v9 : Int32} {M : gMem} (h_post : ∀ y0, post y0 → post' y0) : wj_MO_title_91 post v8 v9 M → wj_MO_title_91 post' v8 v9 M := by
  unfold wj_MO_title_91
  repeat' with_reducible first | exact h_post _ | refine mn_wj_MO_title_102 (fun _ => ?_) | refine mn_wp_MO_letterOf (fun _ => ?_) | refine q_mb ?_ ?_ | refine q_ma (fun _ => ?_) | refine q_me (fun _ => ?_) | refine q_mi ?_ | exact id
theorem mn_wj_MO_title_80 {post post' : gMem → Prop} {v7 : Int32} {v8 : Int32} {v9 : Int32} {M : gMem} (h_post : ∀ y0, post y0 → post' y0) : wj_MO_title_80 post v7 v8 v9 M → wj_MO_title_80 post' v7 v8 v9 M := by
  unfold wj_MO_title_80
  repeat' with_reducible first | exact h_post _ | refine mn_wj_MO_title_91 (fun _ => ?_) | refine mn_wp_MO_letterOf (fun _ => ?_) | refine q_mb ?_ ?_ | refine q_ma (fun _ => ?_) | refine q_me (fun _ => ?_) | refine q_mi ?_ | exact id
theorem mn_wj_MO_title_52 {post post' : gMem → Prop} {v3 : Int32} {v4 : Int32} {v5 : Int32} {v6 : Int32} {v7 : Int32} {v8 : Int32} {v9 : Int32} {M : gMem} (h_post : ∀ y0, post y0 → post' y0) : wj_MO_title_52 post v3 v4 v5 v6 v7 v8 v9 M → wj_MO_title_52 post' v3 v4 v5 v6 v7 v8 v9 M := by
  unfold wj_MO_title_52
  repeat' with_reducible first | exact h_post _ | refine mn_wp_MO_letterOf (fun _ => ?_) | refine mn_wj_MO_title_80 (fun _ => ?_) | refine q_mb ?_ ?_ | refine q_ma (fun _ => ?_) | refine q_me (fun _ => ?_) | refine q_mi ?_ | exact id
theorem mn_wp_MO_title {post post' : gMem → Prop} {a0 : Int32} {a1 : Int32} {a2 : Int32} {a3 : Int32} {a4 : Int32} {a5 : Int32} {a6 : Int32} {a7 : Int32} {a8 : Int32} {M : gMem} (h_post : ∀ y0, post y0 → post' y0) : wp_MO_title post a0 a1 a2 a3 a4 a5 a6 a7 a8 M → wp_MO_title post' a0 a1 a2 a3 a4 a5 a6 a7 a8 M := by
  unfold wp_MO_title
  repeat' with_reducible first | exact h_post _ | refine mn_wp_MO_letterOf (fun _ => ?_) | refine mn_wj_MO_title_52 (fun _ => ?_) | refine q_mb ?_ ?_ | refine q_ma (fun _ => ?_) | refine q_me (fun _ => ?_) | refine q_mi ?_ | exact id
theorem mn_wl_LW_law_18 {post post' : gMem → Prop} {xs : Nat → Int32} {n0 : Nat} (h_post : ∀ y0, post y0 → post' y0) : ∀ (n : Nat) (z0 : Int32) (z1 : gMem), wl_LW_law_18 post xs n0 n z0 z1 → wl_LW_law_18 post' xs n0 n z0 z1 := by
  intro n
  induction n with
  | zero => intro z0 z1 h; exact h
  | succ n ih =>
    intro z0 z1
    unfold wl_LW_law_18
    repeat' with_reducible first | exact h_post _ | exact ih _ _ | refine mn_wp_OF_clear (fun _ => ?_) | refine mn_wp_MO_clear (fun _ => ?_) | refine mn_wp_OF_put (fun _ _ => ?_) | refine mn_wp_MO_put (fun _ _ => ?_) | refine mn_wp_OF_bss (fun _ _ => ?_) | refine mn_wp_MO_bss (fun _ _ => ?_) | refine mn_wp_OF_align (fun _ _ => ?_) | refine mn_wp_MO_align (fun _ _ => ?_) | refine mn_wp_OF_start (fun _ _ => ?_) | refine mn_wp_MO_start (fun _ _ => ?_) | refine mn_wp_OF_letter (fun _ _ => ?_) | refine mn_wp_MO_letter (fun _ _ => ?_) | refine mn_wp_OF_symbol (fun _ _ => ?_) | refine mn_wp_MO_symbol (fun _ _ => ?_) | refine mn_wp_OF_relocation (fun _ _ => ?_) | refine mn_wp_MO_relocation (fun _ _ => ?_) | refine mn_wp_OF_write (fun _ _ => ?_) | refine mn_wp_MO_write (fun _ _ => ?_) | refine mn_wp_OF_size (fun _ _ => ?_) | refine mn_wp_MO_size (fun _ _ => ?_) | refine mn_wp_OF_byteAt (fun _ _ => ?_) | refine mn_wp_MO_byteAt (fun _ _ => ?_) | refine mn_wp_OF_feed (fun _ _ => ?_) | refine mn_wp_MO_feed (fun _ _ => ?_) | refine mn_wp_OF_cut (fun _ _ => ?_) | refine mn_wp_MO_cut (fun _ _ => ?_) | refine mn_wp_OF_spoil (fun _ _ => ?_) | refine mn_wp_MO_spoil (fun _ _ => ?_) | refine mn_wp_OF_read (fun _ _ => ?_) | refine mn_wp_MO_read (fun _ _ => ?_) | refine mn_wp_OF_place (fun _ _ => ?_) | refine mn_wp_MO_place (fun _ _ => ?_) | refine mn_wp_OF_keep (fun _ => ?_) | refine mn_wp_MO_keep (fun _ => ?_) | refine mn_wp_OF_section (fun _ _ => ?_) | refine mn_wp_MO_section (fun _ _ => ?_) | refine mn_wp_OF_at (fun _ _ => ?_) | refine mn_wp_MO_at (fun _ _ => ?_) | refine mn_wp_OF_count (fun _ _ => ?_) | refine mn_wp_MO_count (fun _ _ => ?_) | refine mn_wp_OF_startAt (fun _ _ => ?_) | refine mn_wp_MO_startAt (fun _ _ => ?_) | refine mn_wp_OF_symbolAt (fun _ _ => ?_) | refine mn_wp_MO_symbolAt (fun _ _ => ?_) | refine mn_wp_OF_relocationAt (fun _ _ => ?_) | refine mn_wp_MO_relocationAt (fun _ _ => ?_) | refine q_mb ?_ ?_ | refine q_ma (fun _ => ?_) | refine q_me (fun _ => ?_) | refine q_mi ?_ | exact id
theorem mn_wp_LW_law {post post' : gMem → Prop} {xs : Nat → Int32} {n0 : Nat} {M : gMem} (h_post : ∀ y0, post y0 → post' y0) : wp_LW_law post xs n0 M → wp_LW_law post' xs n0 M := by
  unfold wp_LW_law
  repeat' with_reducible first | exact h_post _ | refine mn_wl_LW_law_18 (fun _ => ?_) _ _ _ | refine q_mb ?_ ?_ | refine q_ma (fun _ => ?_) | refine q_me (fun _ => ?_) | refine q_mi ?_ | exact id
theorem mn_wl_MO_initB_289 {post post' : gMem → Prop}  (h_post : ∀ y0, post y0 → post' y0) : ∀ (n : Nat) (z0 : Int32) (z1 : gMem), wl_MO_initB_289 post n z0 z1 → wl_MO_initB_289 post' n z0 z1 := by
  intro n
  induction n with
  | zero => intro z0 z1 h; exact h
  | succ n ih =>
    intro z0 z1
    unfold wl_MO_initB_289
    repeat' with_reducible first | exact h_post _ | exact ih _ _ | refine mn_wp_MO_title (fun _ => ?_) | refine q_mb ?_ ?_ | refine q_ma (fun _ => ?_) | refine q_me (fun _ => ?_) | refine q_mi ?_ | exact id
theorem mn_wp_MO_bodyB {post post' : gMem → Prop} {M : gMem} (h_post : ∀ y0, post y0 → post' y0) : wp_MO_bodyB post M → wp_MO_bodyB post' M := by
  unfold wp_MO_bodyB
  repeat' with_reducible first | exact h_post _ | refine mn_wl_MO_initB_289 (fun _ => ?_) _ _ _ | refine q_mb ?_ ?_ | refine q_ma (fun _ => ?_) | refine q_me (fun _ => ?_) | refine q_mi ?_ | exact id
theorem mn_wp_MO_initB {post post' : gMem → Prop} {M : gMem} (h_post : ∀ y0, post y0 → post' y0) : wp_MO_initB post M → wp_MO_initB post' M := by
  unfold wp_MO_initB
  repeat' with_reducible first | exact h_post _ | refine mn_wp_MO_bodyB (fun _ => ?_) | refine q_mb ?_ ?_ | refine q_ma (fun _ => ?_) | refine q_me (fun _ => ?_) | refine q_mi ?_ | exact id
end
