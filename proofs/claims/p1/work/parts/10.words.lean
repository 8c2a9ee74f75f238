/-! the words that the rows use, by their places -/
theorem twP_X5_multiplyByFraction : Jvm.Cond.selects "FractionRun$State" ({ cls := "FractionRun$State", name := "multiplyByFraction", desc := "(LFractionRun$Fractions;I)V" } : Jvm.MethodName) ({ cls := "FractionRun$State", name := "multiplyByFraction", desc := "(LFractionRun$Fractions;I)V" } : Jvm.MethodName) ∈ TBL := tb 5 (by decide +kernel) (by decide +kernel)
theorem tw5 : (Jvm.Cond.initialized "FractionRun$State") ∈ TBL := tb 54 (by decide +kernel) (by decide +kernel)
theorem tw60 : (Jvm.Cond.fieldLink "FractionRun$State" (49 : Nat) "FractionRun$Fractions" "kinds" "[I") ∈ TBL := tb 109 (by decide +kernel) (by decide +kernel)
theorem tw66 : (Jvm.Cond.fieldLink "FractionRun$State" (52 : Nat) "FractionRun$Fractions" "changes" "[I") ∈ TBL := tb 115 (by decide +kernel) (by decide +kernel)
theorem tw92 : (Jvm.Cond.fieldLink "FractionRun$State" (9 : Nat) "FractionRun$State" "powers" "[I") ∈ TBL := tb 141 (by decide +kernel) (by decide +kernel)
theorem tw95 : (Jvm.Cond.fieldLink "FractionRun$State" (15 : Nat) "FractionRun$State" "row" "[I") ∈ TBL := tb 144 (by decide +kernel) (by decide +kernel)
theorem tw97 : (Jvm.Cond.fieldLink "FractionRun$State" (33 : Nat) "FractionRun$State" "rowSize" "I") ∈ TBL := tb 146 (by decide +kernel) (by decide +kernel)
theorem tw100 : (Jvm.Cond.fieldLink "FractionRun$State" (39 : Nat) "FractionRun$State" "usedBits" "I") ∈ TBL := tb 149 (by decide +kernel) (by decide +kernel)
theorem tw103 : (Jvm.Cond.fieldLink "FractionRun$State" (42 : Nat) "FractionRun$State" "step" "I") ∈ TBL := tb 152 (by decide +kernel) (by decide +kernel)
theorem tw105 : (Jvm.Cond.fieldLink "FractionRun$State" (45 : Nat) "FractionRun$State" "ended" "Z") ∈ TBL := tb 154 (by decide +kernel) (by decide +kernel)
theorem tw107 : (Jvm.Cond.fieldLink "FractionRun$State" (71 : Nat) "FractionRun$State" "timesInStep" "I") ∈ TBL := tb 156 (by decide +kernel) (by decide +kernel)
theorem tw391 : (Jvm.Cond.instanceMethod ({ cls := "FractionRun$State", name := "isUsable", desc := "(LFractionRun$Fractions;I)Z" } : Jvm.MethodName)) ∈ TBL := tb 440 (by decide +kernel) (by decide +kernel)
theorem tw392 : (Jvm.Cond.selects "FractionRun$State" ({ cls := "FractionRun$State", name := "isUsable", desc := "(LFractionRun$Fractions;I)Z" } : Jvm.MethodName) ({ cls := "FractionRun$State", name := "isUsable", desc := "(LFractionRun$Fractions;I)Z" } : Jvm.MethodName)) ∈ TBL := tb 441 (by decide +kernel) (by decide +kernel)
theorem tw393 : (Jvm.Cond.code ({ cls := "FractionRun$State", name := "isUsable", desc := "(LFractionRun$Fractions;I)Z" } : Jvm.MethodName) prog_7_method_10_code (7 : Nat) (Option.some Jvm.ClassFile.FieldType.boolean)) ∈ TBL := tb 442 (by decide +kernel) (by decide +kernel)
theorem tw406 : (Jvm.Cond.instanceMethod ({ cls := "FractionRun$State", name := "isAtRest", desc := "(LFractionRun$Fractions;)Z" } : Jvm.MethodName)) ∈ TBL := tb 455 (by decide +kernel) (by decide +kernel)
theorem tw407 : (Jvm.Cond.selects "FractionRun$State" ({ cls := "FractionRun$State", name := "isAtRest", desc := "(LFractionRun$Fractions;)Z" } : Jvm.MethodName) ({ cls := "FractionRun$State", name := "isAtRest", desc := "(LFractionRun$Fractions;)Z" } : Jvm.MethodName)) ∈ TBL := tb 456 (by decide +kernel) (by decide +kernel)
theorem tw408 : (Jvm.Cond.code ({ cls := "FractionRun$State", name := "isAtRest", desc := "(LFractionRun$Fractions;)Z" } : Jvm.MethodName) prog_7_method_13_code (2 : Nat) (Option.some Jvm.ClassFile.FieldType.boolean)) ∈ TBL := tb 457 (by decide +kernel) (by decide +kernel)
theorem tw409 : (Jvm.Cond.methodLink "FractionRun$State" (63 : Nat) ({ cls := "FractionRun$State", name := "nextFraction", desc := "(LFractionRun$Fractions;)I" } : Jvm.MethodName)) ∈ TBL := tb 458 (by decide +kernel) (by decide +kernel)
theorem tw410 : (Jvm.Cond.instanceMethod ({ cls := "FractionRun$State", name := "nextFraction", desc := "(LFractionRun$Fractions;)I" } : Jvm.MethodName)) ∈ TBL := tb 459 (by decide +kernel) (by decide +kernel)
theorem tw411 : (Jvm.Cond.selects "FractionRun$State" ({ cls := "FractionRun$State", name := "nextFraction", desc := "(LFractionRun$Fractions;)I" } : Jvm.MethodName) ({ cls := "FractionRun$State", name := "nextFraction", desc := "(LFractionRun$Fractions;)I" } : Jvm.MethodName)) ∈ TBL := tb 460 (by decide +kernel) (by decide +kernel)
theorem tw412 : (Jvm.Cond.code ({ cls := "FractionRun$State", name := "nextFraction", desc := "(LFractionRun$Fractions;)I" } : Jvm.MethodName) prog_7_method_11_code (6 : Nat) (Option.some Jvm.ClassFile.FieldType.int)) ∈ TBL := tb 461 (by decide +kernel) (by decide +kernel)
theorem tw413 : (Jvm.Cond.methodLink "FractionRun$State" (55 : Nat) ({ cls := "FractionRun$State", name := "isUsable", desc := "(LFractionRun$Fractions;I)Z" } : Jvm.MethodName)) ∈ TBL := tb 462 (by decide +kernel) (by decide +kernel)
theorem tw427 : (Jvm.Cond.instanceMethod ({ cls := "FractionRun$State", name := "takeSteps", desc := "(LFractionRun$Fractions;I)I" } : Jvm.MethodName)) ∈ TBL := tb 476 (by decide +kernel) (by decide +kernel)
theorem tw428 : (Jvm.Cond.selects "FractionRun$State" ({ cls := "FractionRun$State", name := "takeSteps", desc := "(LFractionRun$Fractions;I)I" } : Jvm.MethodName) ({ cls := "FractionRun$State", name := "takeSteps", desc := "(LFractionRun$Fractions;I)I" } : Jvm.MethodName)) ∈ TBL := tb 477 (by decide +kernel) (by decide +kernel)
theorem tw429 : (Jvm.Cond.code ({ cls := "FractionRun$State", name := "takeSteps", desc := "(LFractionRun$Fractions;I)I" } : Jvm.MethodName) prog_7_method_16_code (4 : Nat) (Option.some Jvm.ClassFile.FieldType.int)) ∈ TBL := tb 478 (by decide +kernel) (by decide +kernel)
theorem tw430 : (Jvm.Cond.methodLink "FractionRun$State" (74 : Nat) ({ cls := "FractionRun$State", name := "takeStep", desc := "(LFractionRun$Fractions;)I" } : Jvm.MethodName)) ∈ TBL := tb 479 (by decide +kernel) (by decide +kernel)
theorem tw431 : (Jvm.Cond.instanceMethod ({ cls := "FractionRun$State", name := "takeStep", desc := "(LFractionRun$Fractions;)I" } : Jvm.MethodName)) ∈ TBL := tb 480 (by decide +kernel) (by decide +kernel)
theorem tw432 : (Jvm.Cond.selects "FractionRun$State" ({ cls := "FractionRun$State", name := "takeStep", desc := "(LFractionRun$Fractions;)I" } : Jvm.MethodName) ({ cls := "FractionRun$State", name := "takeStep", desc := "(LFractionRun$Fractions;)I" } : Jvm.MethodName)) ∈ TBL := tb 481 (by decide +kernel) (by decide +kernel)
theorem tw433 : (Jvm.Cond.code ({ cls := "FractionRun$State", name := "takeStep", desc := "(LFractionRun$Fractions;)I" } : Jvm.MethodName) prog_7_method_14_code (3 : Nat) (Option.some Jvm.ClassFile.FieldType.int)) ∈ TBL := tb 482 (by decide +kernel) (by decide +kernel)
theorem tw434 : (Jvm.Cond.methodLink "FractionRun$State" (67 : Nat) ({ cls := "FractionRun$State", name := "multiplyByFraction", desc := "(LFractionRun$Fractions;I)V" } : Jvm.MethodName)) ∈ TBL := tb 483 (by decide +kernel) (by decide +kernel)
theorem tw436 : (Jvm.Cond.instanceMethod ({ cls := "FractionRun$State", name := "multiplyByFraction", desc := "(LFractionRun$Fractions;I)V" } : Jvm.MethodName)) ∈ TBL := tb 485 (by decide +kernel) (by decide +kernel)
theorem tw437 : (Jvm.Cond.code ({ cls := "FractionRun$State", name := "multiplyByFraction", desc := "(LFractionRun$Fractions;I)V" } : Jvm.MethodName) prog_7_method_15_code (5 : Nat) (Option.none : Option Jvm.ClassFile.FieldType)) ∈ TBL := tb 486 (by decide +kernel) (by decide +kernel)
theorem tw487 : (Jvm.Cond.code ({ cls := "FractionRun$State", name := "stepsToRest", desc := "(LFractionRun$Fractions;I)I" } : Jvm.MethodName) prog_7_method_17_code (4 : Nat) (Option.some Jvm.ClassFile.FieldType.int)) ∈ TBL := tb 536 (by decide +kernel) (by decide +kernel)
theorem tw488 : (Jvm.Cond.methodLink "FractionRun$State" (77 : Nat) ({ cls := "FractionRun$State", name := "takeSteps", desc := "(LFractionRun$Fractions;I)I" } : Jvm.MethodName)) ∈ TBL := tb 537 (by decide +kernel) (by decide +kernel)
theorem tw489 : (Jvm.Cond.methodLink "FractionRun$State" (81 : Nat) ({ cls := "FractionRun$State", name := "isAtRest", desc := "(LFractionRun$Fractions;)Z" } : Jvm.MethodName)) ∈ TBL := tb 538 (by decide +kernel) (by decide +kernel)
theorem twObjCode : Cond.code Lib.objectInit ⟨#[0xb1]⟩ 1 none ∈ TBL := tb 73 (by decide +kernel) (by decide +kernel)
theorem twMath_max : Cond.code Lib.Math.max.name Lib.Math.max.code 2 (some .int) ∈ TBL := tb 330 (by decide +kernel) (by decide +kernel)
theorem twMath_min : Cond.code Lib.Math.min.name Lib.Math.min.code 2 (some .int) ∈ TBL := tb 473 (by decide +kernel) (by decide +kernel)
theorem okX0 : okc 0 RX0 TX0 2 tyX0 := ⟨rfl, twlay (by decide +kernel), tyX0_ok, nmX0⟩
theorem okX1 : okc 1 RX1 TX1 6 tyX1 := ⟨rfl, twlay (by decide +kernel), tyX1_ok, nmX1⟩
theorem okX2 : okc 2 RX2 TX2 3 tyX2 := ⟨rfl, twlay (by decide +kernel), tyX2_ok, nmX2⟩
theorem okX3 : okc 3 RX3 TX3 3 tyX3 := ⟨rfl, twlay (by decide +kernel), tyX3_ok, nmX3⟩
theorem okX4 : okc 4 RX4 TX4 1 tyX4 := ⟨rfl, twlay (by decide +kernel), tyX4_ok, nmX4⟩
theorem okX5 : okc 5 RX5 TX5 7 tyX5 := ⟨rfl, twlay (by decide +kernel), tyX5_ok, nmX5⟩
theorem okX6 : okc 6 RX6 TX6 2 tyX6 := ⟨rfl, twlay (by decide +kernel), tyX6_ok, nmX6⟩
theorem okX7 : okc 7 RX7 TX7 15 tyX7 := ⟨rfl, twlay (by decide +kernel), tyX7_ok, nmX7⟩
theorem okX8 : okc 8 RX8 TX8 24 tyX8 := ⟨rfl, twlay (by decide +kernel), tyX8_ok, nmX8⟩
