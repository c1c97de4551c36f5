/-! what the law makes of a refusal: a number for each, in the order of the method's list -/
theorem zE_IT : zE_I ≠ zE_T := by decide +kernel
theorem zE_IR : zE_I ≠ zE_R := by decide +kernel
theorem zE_IM : zE_I ≠ zE_M := by decide +kernel
theorem zE_TI : zE_T ≠ zE_I := by decide +kernel
theorem zE_TR : zE_T ≠ zE_R := by decide +kernel
theorem zE_TM : zE_T ≠ zE_M := by decide +kernel
theorem zE_RI : zE_R ≠ zE_I := by decide +kernel
theorem zE_RT : zE_R ≠ zE_T := by decide +kernel
theorem zE_RM : zE_R ≠ zE_M := by decide +kernel
theorem zE_MI : zE_M ≠ zE_I := by decide +kernel
theorem zE_MT : zE_M ≠ zE_T := by decide +kernel
theorem zE_MR : zE_M ≠ zE_R := by decide +kernel
theorem zX_I_I {A : Prop} (h : A) : (zE_I = zE_I → A) ∧ zE_I = zE_I := ⟨fun _ => h, rfl⟩
theorem zX_R_R {A : Prop} (h : A) : (zE_R = zE_R → A) ∧ zE_R = zE_R := ⟨fun _ => h, rfl⟩
theorem zX_IR_I {A B : Prop} (h : A) : (zE_I = zE_I → A) ∧ (zE_I = zE_R → B) ∧ (zE_I = zE_I ∨ zE_I = zE_R) := ⟨fun _ => h, fun z => absurd z zE_IR, Or.inl rfl⟩
theorem zX_IR_R {A B : Prop} (h : B) : (zE_R = zE_I → A) ∧ (zE_R = zE_R → B) ∧ (zE_R = zE_I ∨ zE_R = zE_R) := ⟨fun z => absurd z zE_RI, fun _ => h, Or.inr rfl⟩
theorem zX_RM_R {A B : Prop} (h : A) : (zE_R = zE_R → A) ∧ (zE_R = zE_M → B) ∧ (zE_R = zE_R ∨ zE_R = zE_M) := ⟨fun _ => h, fun z => absurd z zE_RM, Or.inl rfl⟩
theorem zX_RM_M {A B : Prop} (h : B) : (zE_M = zE_R → A) ∧ (zE_M = zE_M → B) ∧ (zE_M = zE_R ∨ zE_M = zE_M) := ⟨fun z => absurd z zE_MR, fun _ => h, Or.inr rfl⟩
theorem zX_IRM_I {A B C : Prop} (h : A) : (zE_I = zE_I → A) ∧ (zE_I = zE_R → B) ∧ (zE_I = zE_M → C) ∧ (zE_I = zE_I ∨ zE_I = zE_R ∨ zE_I = zE_M) := ⟨fun _ => h, fun z => absurd z zE_IR, fun z => absurd z zE_IM, Or.inl rfl⟩
theorem zX_IRM_R {A B C : Prop} (h : B) : (zE_R = zE_I → A) ∧ (zE_R = zE_R → B) ∧ (zE_R = zE_M → C) ∧ (zE_R = zE_I ∨ zE_R = zE_R ∨ zE_R = zE_M) := ⟨fun z => absurd z zE_RI, fun _ => h, fun z => absurd z zE_RM, Or.inr (Or.inl rfl)⟩
theorem zX_IRM_M {A B C : Prop} (h : C) : (zE_M = zE_I → A) ∧ (zE_M = zE_R → B) ∧ (zE_M = zE_M → C) ∧ (zE_M = zE_I ∨ zE_M = zE_R ∨ zE_M = zE_M) := ⟨fun z => absurd z zE_MI, fun z => absurd z zE_MR, fun _ => h, Or.inr (Or.inr rfl)⟩
theorem zX_ITM_I {A B C : Prop} (h : A) : (zE_I = zE_I → A) ∧ (zE_I = zE_T → B) ∧ (zE_I = zE_M → C) ∧ (zE_I = zE_I ∨ zE_I = zE_T ∨ zE_I = zE_M) := ⟨fun _ => h, fun z => absurd z zE_IT, fun z => absurd z zE_IM, Or.inl rfl⟩
theorem zX_ITM_T {A B C : Prop} (h : B) : (zE_T = zE_I → A) ∧ (zE_T = zE_T → B) ∧ (zE_T = zE_M → C) ∧ (zE_T = zE_I ∨ zE_T = zE_T ∨ zE_T = zE_M) := ⟨fun z => absurd z zE_TI, fun _ => h, fun z => absurd z zE_TM, Or.inr (Or.inl rfl)⟩
theorem zX_ITM_M {A B C : Prop} (h : C) : (zE_M = zE_I → A) ∧ (zE_M = zE_T → B) ∧ (zE_M = zE_M → C) ∧ (zE_M = zE_I ∨ zE_M = zE_T ∨ zE_M = zE_M) := ⟨fun z => absurd z zE_MI, fun z => absurd z zE_MT, fun _ => h, Or.inr (Or.inr rfl)⟩
theorem zX_ITRM_I {A B C D : Prop} (h : A) : (zE_I = zE_I → A) ∧ (zE_I = zE_T → B) ∧ (zE_I = zE_R → C) ∧ (zE_I = zE_M → D) ∧ (zE_I = zE_I ∨ zE_I = zE_T ∨ zE_I = zE_R ∨ zE_I = zE_M) := ⟨fun _ => h, fun z => absurd z zE_IT, fun z => absurd z zE_IR, fun z => absurd z zE_IM, Or.inl rfl⟩
theorem zX_ITRM_T {A B C D : Prop} (h : B) : (zE_T = zE_I → A) ∧ (zE_T = zE_T → B) ∧ (zE_T = zE_R → C) ∧ (zE_T = zE_M → D) ∧ (zE_T = zE_I ∨ zE_T = zE_T ∨ zE_T = zE_R ∨ zE_T = zE_M) := ⟨fun z => absurd z zE_TI, fun _ => h, fun z => absurd z zE_TR, fun z => absurd z zE_TM, Or.inr (Or.inl rfl)⟩
theorem zX_ITRM_R {A B C D : Prop} (h : C) : (zE_R = zE_I → A) ∧ (zE_R = zE_T → B) ∧ (zE_R = zE_R → C) ∧ (zE_R = zE_M → D) ∧ (zE_R = zE_I ∨ zE_R = zE_T ∨ zE_R = zE_R ∨ zE_R = zE_M) := ⟨fun z => absurd z zE_RI, fun z => absurd z zE_RT, fun _ => h, fun z => absurd z zE_RM, Or.inr (Or.inr (Or.inl rfl))⟩
theorem zX_ITRM_M {A B C D : Prop} (h : D) : (zE_M = zE_I → A) ∧ (zE_M = zE_T → B) ∧ (zE_M = zE_R → C) ∧ (zE_M = zE_M → D) ∧ (zE_M = zE_I ∨ zE_M = zE_T ∨ zE_M = zE_R ∨ zE_M = zE_M) := ⟨fun z => absurd z zE_MI, fun z => absurd z zE_MT, fun z => absurd z zE_MR, fun _ => h, Or.inr (Or.inr (Or.inr rfl))⟩
theorem z_01 : vp_in 0 1 := zi_in (n := 0) (N := 1) (by omega) (by omega)
theorem z_c0 : (0 : Int32).toNatClampNeg = 0 := by decide
