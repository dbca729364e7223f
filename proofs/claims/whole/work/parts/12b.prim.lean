/-! ===== words of the texts' two methods and of Math ===== -/
theorem zstr_0 : Cond.code ⟨"java/lang/String", "length", "()I"⟩ prog_16_method_54_code 1 (some .int) ∈ zWS := zWS_of (i := 517) (by decide +kernel)
theorem zstr_1 : Cond.instanceMethod ⟨"java/lang/String", "length", "()I"⟩ ∈ zWS := zWS_of (i := 515) (by decide +kernel)
theorem zstr_2 : Cond.selects "java/lang/String" ⟨"java/lang/String", "length", "()I"⟩ ⟨"java/lang/String", "length", "()I"⟩ ∈ zWS := zWS_of (i := 516) (by decide +kernel)
theorem zstr_3 : Cond.code ⟨"java/lang/String", "charAt", "(I)C"⟩ prog_16_method_56_code 2 (some .char) ∈ zWS := zWS_of (i := 527) (by decide +kernel)
theorem zstr_4 : Cond.instanceMethod ⟨"java/lang/String", "charAt", "(I)C"⟩ ∈ zWS := zWS_of (i := 525) (by decide +kernel)
theorem zstr_5 : Cond.selects "java/lang/String" ⟨"java/lang/String", "charAt", "(I)C"⟩ ⟨"java/lang/String", "charAt", "(I)C"⟩ ∈ zWS := zWS_of (i := 526) (by decide +kernel)
theorem zstr_6 : Cond.initialized "java/lang/String" ∈ zWS := zWS_of (i := 15) (by decide +kernel)
theorem zcv300 : zcv 300 = (⟨"java/lang/String", "length", "()I"⟩, prog_16_method_54_code, 1, some .int) := by unfold zcv; rw [List.getElem?_eq_none (by rw [zinf_lenN]; omega)]; rfl
theorem zcv301 : zcv 301 = (⟨"java/lang/String", "charAt", "(I)C"⟩, prog_16_method_56_code, 2, some .char) := by unfold zcv; rw [List.getElem?_eq_none (by rw [zinf_lenN]; omega)]; rfl
theorem zmn300 : zmn 300 = ⟨"java/lang/String", "length", "()I"⟩ := by unfold zmn; rw [List.getElem?_eq_none (by rw [← zlens.1, zinf_lenN]; omega)]; rfl
theorem zmn301 : zmn 301 = ⟨"java/lang/String", "charAt", "(I)C"⟩ := by unfold zmn; rw [List.getElem?_eq_none (by rw [← zlens.1, zinf_lenN]; omega)]; rfl
theorem zmath_i : Cond.initialized "java/lang/Math" ∈ zWS := zWS_of (i := 8) (by decide +kernel)
theorem zmath_0 : Cond.static Lib.Math.max.name ∈ zWS := zWS_of (i := 249) (by decide +kernel)
theorem zmath_1 : Cond.code Lib.Math.max.name Lib.Math.max.code 2 (some .int) ∈ zWS := zWS_of (i := 250) (by decide +kernel)
theorem zmath_2 : Cond.static Lib.Math.min.name ∈ zWS := zWS_of (i := 570) (by decide +kernel)
theorem zmath_3 : Cond.code Lib.Math.min.name Lib.Math.min.code 2 (some .int) ∈ zWS := zWS_of (i := 571) (by decide +kernel)
theorem zmath_4 : Cond.static Lib.MathLoose.min_long.x ∈ zWS := zWS_of (i := 747) (by decide +kernel)
theorem zmath_5 : Cond.code Lib.MathLoose.min_long.x Lib.MathLoose.min_long.code 4 (some .long) ∈ zWS := zWS_of (i := 748) (by decide +kernel)
theorem zmath_6 : Cond.static Lib.MathLoose.max_long.x ∈ zWS := zWS_of (i := 750) (by decide +kernel)
theorem zmath_7 : Cond.code Lib.MathLoose.max_long.x Lib.MathLoose.max_long.code 4 (some .long) ∈ zWS := zWS_of (i := 751) (by decide +kernel)
