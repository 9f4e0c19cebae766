-- the law's body: sites, decode rows
abbrev Y_W_law : MI := (x, code, maxLocals, ret)
theorem cm_T_raised : (Cond.code Y_T_raised.1 Y_T_raised.2.1 Y_T_raised.2.2.1 Y_T_raised.2.2.2 ∈ pj_ws) ∧ (Cond.initialized Y_T_raised.1.cls ∈ pj_ws) ∧ (Y_T_raised.1.cls ≠ "java/lang/invoke/MethodHandle" ∧ Y_T_raised.1.cls ≠ "java/lang/invoke/VarHandle" ∧ (parseMethodDescriptor Y_T_raised.1.desc).map (fun d => d.parameters.length) = some 0) ∧ (Cond.instanceMethod Y_T_raised.1 ∈ pj_ws) ∧ (Cond.selects Y_T_raised.1.cls Y_T_raised.1 Y_T_raised.1 ∈ pj_ws) := ⟨pj_mem 1031 (by decide +kernel) rfl, pj_mem 130 (by decide +kernel) rfl, ⟨by decide +kernel, by decide +kernel, by decide +kernel⟩, pj_mem 1029 (by decide +kernel) rfl, pj_mem 1030 (by decide +kernel) rfl⟩
theorem cm_M_raised : (Cond.code Y_M_raised.1 Y_M_raised.2.1 Y_M_raised.2.2.1 Y_M_raised.2.2.2 ∈ pj_ws) ∧ (Cond.initialized Y_M_raised.1.cls ∈ pj_ws) ∧ (Y_M_raised.1.cls ≠ "java/lang/invoke/MethodHandle" ∧ Y_M_raised.1.cls ≠ "java/lang/invoke/VarHandle" ∧ (parseMethodDescriptor Y_M_raised.1.desc).map (fun d => d.parameters.length) = some 0) ∧ (Cond.instanceMethod Y_M_raised.1 ∈ pj_ws) ∧ (Cond.selects Y_M_raised.1.cls Y_M_raised.1 Y_M_raised.1 ∈ pj_ws) := ⟨pj_mem 1943 (by decide +kernel) rfl, pj_mem 141 (by decide +kernel) rfl, ⟨by decide +kernel, by decide +kernel, by decide +kernel⟩, pj_mem 1941 (by decide +kernel) rfl, pj_mem 1942 (by decide +kernel) rfl⟩
theorem cm_T_harm : (Cond.code Y_T_harm.1 Y_T_harm.2.1 Y_T_harm.2.2.1 Y_T_harm.2.2.2 ∈ pj_ws) ∧ (Cond.initialized Y_T_harm.1.cls ∈ pj_ws) ∧ (Y_T_harm.1.cls ≠ "java/lang/invoke/MethodHandle" ∧ Y_T_harm.1.cls ≠ "java/lang/invoke/VarHandle" ∧ (parseMethodDescriptor Y_T_harm.1.desc).map (fun d => d.parameters.length) = some 0) ∧ (Cond.instanceMethod Y_T_harm.1 ∈ pj_ws) ∧ (Cond.selects Y_T_harm.1.cls Y_T_harm.1 Y_T_harm.1 ∈ pj_ws) := ⟨pj_mem 1039 (by decide +kernel) rfl, pj_mem 130 (by decide +kernel) rfl, ⟨by decide +kernel, by decide +kernel, by decide +kernel⟩, pj_mem 1037 (by decide +kernel) rfl, pj_mem 1038 (by decide +kernel) rfl⟩
theorem cm_M_harm : (Cond.code Y_M_harm.1 Y_M_harm.2.1 Y_M_harm.2.2.1 Y_M_harm.2.2.2 ∈ pj_ws) ∧ (Cond.initialized Y_M_harm.1.cls ∈ pj_ws) ∧ (Y_M_harm.1.cls ≠ "java/lang/invoke/MethodHandle" ∧ Y_M_harm.1.cls ≠ "java/lang/invoke/VarHandle" ∧ (parseMethodDescriptor Y_M_harm.1.desc).map (fun d => d.parameters.length) = some 0) ∧ (Cond.instanceMethod Y_M_harm.1 ∈ pj_ws) ∧ (Cond.selects Y_M_harm.1.cls Y_M_harm.1 Y_M_harm.1 ∈ pj_ws) := ⟨pj_mem 1951 (by decide +kernel) rfl, pj_mem 141 (by decide +kernel) rfl, ⟨by decide +kernel, by decide +kernel, by decide +kernel⟩, pj_mem 1949 (by decide +kernel) rfl, pj_mem 1950 (by decide +kernel) rfl⟩
theorem cm_T_raisedBy : (Cond.code Y_T_raisedBy.1 Y_T_raisedBy.2.1 Y_T_raisedBy.2.2.1 Y_T_raisedBy.2.2.2 ∈ pj_ws) ∧ (Cond.initialized Y_T_raisedBy.1.cls ∈ pj_ws) ∧ (Y_T_raisedBy.1.cls ≠ "java/lang/invoke/MethodHandle" ∧ Y_T_raisedBy.1.cls ≠ "java/lang/invoke/VarHandle" ∧ (parseMethodDescriptor Y_T_raisedBy.1.desc).map (fun d => d.parameters.length) = some 1) ∧ (Cond.instanceMethod Y_T_raisedBy.1 ∈ pj_ws) ∧ (Cond.selects Y_T_raisedBy.1.cls Y_T_raisedBy.1 Y_T_raisedBy.1 ∈ pj_ws) := ⟨pj_mem 1054 (by decide +kernel) rfl, pj_mem 130 (by decide +kernel) rfl, ⟨by decide +kernel, by decide +kernel, by decide +kernel⟩, pj_mem 1052 (by decide +kernel) rfl, pj_mem 1053 (by decide +kernel) rfl⟩
theorem cm_M_raisedBy : (Cond.code Y_M_raisedBy.1 Y_M_raisedBy.2.1 Y_M_raisedBy.2.2.1 Y_M_raisedBy.2.2.2 ∈ pj_ws) ∧ (Cond.initialized Y_M_raisedBy.1.cls ∈ pj_ws) ∧ (Y_M_raisedBy.1.cls ≠ "java/lang/invoke/MethodHandle" ∧ Y_M_raisedBy.1.cls ≠ "java/lang/invoke/VarHandle" ∧ (parseMethodDescriptor Y_M_raisedBy.1.desc).map (fun d => d.parameters.length) = some 1) ∧ (Cond.instanceMethod Y_M_raisedBy.1 ∈ pj_ws) ∧ (Cond.selects Y_M_raisedBy.1.cls Y_M_raisedBy.1 Y_M_raisedBy.1 ∈ pj_ws) := ⟨pj_mem 1959 (by decide +kernel) rfl, pj_mem 141 (by decide +kernel) rfl, ⟨by decide +kernel, by decide +kernel, by decide +kernel⟩, pj_mem 1957 (by decide +kernel) rfl, pj_mem 1958 (by decide +kernel) rfl⟩
theorem cm_T_harmBy : (Cond.code Y_T_harmBy.1 Y_T_harmBy.2.1 Y_T_harmBy.2.2.1 Y_T_harmBy.2.2.2 ∈ pj_ws) ∧ (Cond.initialized Y_T_harmBy.1.cls ∈ pj_ws) ∧ (Y_T_harmBy.1.cls ≠ "java/lang/invoke/MethodHandle" ∧ Y_T_harmBy.1.cls ≠ "java/lang/invoke/VarHandle" ∧ (parseMethodDescriptor Y_T_harmBy.1.desc).map (fun d => d.parameters.length) = some 1) ∧ (Cond.instanceMethod Y_T_harmBy.1 ∈ pj_ws) ∧ (Cond.selects Y_T_harmBy.1.cls Y_T_harmBy.1 Y_T_harmBy.1 ∈ pj_ws) := ⟨pj_mem 1066 (by decide +kernel) rfl, pj_mem 130 (by decide +kernel) rfl, ⟨by decide +kernel, by decide +kernel, by decide +kernel⟩, pj_mem 1064 (by decide +kernel) rfl, pj_mem 1065 (by decide +kernel) rfl⟩
theorem cm_M_harmBy : (Cond.code Y_M_harmBy.1 Y_M_harmBy.2.1 Y_M_harmBy.2.2.1 Y_M_harmBy.2.2.2 ∈ pj_ws) ∧ (Cond.initialized Y_M_harmBy.1.cls ∈ pj_ws) ∧ (Y_M_harmBy.1.cls ≠ "java/lang/invoke/MethodHandle" ∧ Y_M_harmBy.1.cls ≠ "java/lang/invoke/VarHandle" ∧ (parseMethodDescriptor Y_M_harmBy.1.desc).map (fun d => d.parameters.length) = some 1) ∧ (Cond.instanceMethod Y_M_harmBy.1 ∈ pj_ws) ∧ (Cond.selects Y_M_harmBy.1.cls Y_M_harmBy.1 Y_M_harmBy.1 ∈ pj_ws) := ⟨pj_mem 1971 (by decide +kernel) rfl, pj_mem 141 (by decide +kernel) rfl, ⟨by decide +kernel, by decide +kernel, by decide +kernel⟩, pj_mem 1969 (by decide +kernel) rfl, pj_mem 1970 (by decide +kernel) rfl⟩
theorem cm_T_bestTable : (Cond.code Y_T_bestTable.1 Y_T_bestTable.2.1 Y_T_bestTable.2.2.1 Y_T_bestTable.2.2.2 ∈ pj_ws) ∧ (Cond.initialized Y_T_bestTable.1.cls ∈ pj_ws) ∧ (Y_T_bestTable.1.cls ≠ "java/lang/invoke/MethodHandle" ∧ Y_T_bestTable.1.cls ≠ "java/lang/invoke/VarHandle" ∧ (parseMethodDescriptor Y_T_bestTable.1.desc).map (fun d => d.parameters.length) = some 0) ∧ (Cond.instanceMethod Y_T_bestTable.1 ∈ pj_ws) ∧ (Cond.selects Y_T_bestTable.1.cls Y_T_bestTable.1 Y_T_bestTable.1 ∈ pj_ws) := ⟨pj_mem 1070 (by decide +kernel) rfl, pj_mem 130 (by decide +kernel) rfl, ⟨by decide +kernel, by decide +kernel, by decide +kernel⟩, pj_mem 1068 (by decide +kernel) rfl, pj_mem 1069 (by decide +kernel) rfl⟩
theorem cm_M_bestTable : (Cond.code Y_M_bestTable.1 Y_M_bestTable.2.1 Y_M_bestTable.2.2.1 Y_M_bestTable.2.2.2 ∈ pj_ws) ∧ (Cond.initialized Y_M_bestTable.1.cls ∈ pj_ws) ∧ (Y_M_bestTable.1.cls ≠ "java/lang/invoke/MethodHandle" ∧ Y_M_bestTable.1.cls ≠ "java/lang/invoke/VarHandle" ∧ (parseMethodDescriptor Y_M_bestTable.1.desc).map (fun d => d.parameters.length) = some 0) ∧ (Cond.instanceMethod Y_M_bestTable.1 ∈ pj_ws) ∧ (Cond.selects Y_M_bestTable.1.cls Y_M_bestTable.1 Y_M_bestTable.1 ∈ pj_ws) := ⟨pj_mem 1975 (by decide +kernel) rfl, pj_mem 141 (by decide +kernel) rfl, ⟨by decide +kernel, by decide +kernel, by decide +kernel⟩, pj_mem 1973 (by decide +kernel) rfl, pj_mem 1974 (by decide +kernel) rfl⟩
theorem cm_T_raisedThird : (Cond.code Y_T_raisedThird.1 Y_T_raisedThird.2.1 Y_T_raisedThird.2.2.1 Y_T_raisedThird.2.2.2 ∈ pj_ws) ∧ (Cond.initialized Y_T_raisedThird.1.cls ∈ pj_ws) ∧ (Y_T_raisedThird.1.cls ≠ "java/lang/invoke/MethodHandle" ∧ Y_T_raisedThird.1.cls ≠ "java/lang/invoke/VarHandle" ∧ (parseMethodDescriptor Y_T_raisedThird.1.desc).map (fun d => d.parameters.length) = some 1) ∧ (Cond.instanceMethod Y_T_raisedThird.1 ∈ pj_ws) ∧ (Cond.selects Y_T_raisedThird.1.cls Y_T_raisedThird.1 Y_T_raisedThird.1 ∈ pj_ws) := ⟨pj_mem 1074 (by decide +kernel) rfl, pj_mem 130 (by decide +kernel) rfl, ⟨by decide +kernel, by decide +kernel, by decide +kernel⟩, pj_mem 1072 (by decide +kernel) rfl, pj_mem 1073 (by decide +kernel) rfl⟩
theorem cm_M_raisedThird : (Cond.code Y_M_raisedThird.1 Y_M_raisedThird.2.1 Y_M_raisedThird.2.2.1 Y_M_raisedThird.2.2.2 ∈ pj_ws) ∧ (Cond.initialized Y_M_raisedThird.1.cls ∈ pj_ws) ∧ (Y_M_raisedThird.1.cls ≠ "java/lang/invoke/MethodHandle" ∧ Y_M_raisedThird.1.cls ≠ "java/lang/invoke/VarHandle" ∧ (parseMethodDescriptor Y_M_raisedThird.1.desc).map (fun d => d.parameters.length) = some 1) ∧ (Cond.instanceMethod Y_M_raisedThird.1 ∈ pj_ws) ∧ (Cond.selects Y_M_raisedThird.1.cls Y_M_raisedThird.1 Y_M_raisedThird.1 ∈ pj_ws) := ⟨pj_mem 1979 (by decide +kernel) rfl, pj_mem 141 (by decide +kernel) rfl, ⟨by decide +kernel, by decide +kernel, by decide +kernel⟩, pj_mem 1977 (by decide +kernel) rfl, pj_mem 1978 (by decide +kernel) rfl⟩
theorem cm_T_harmThird : (Cond.code Y_T_harmThird.1 Y_T_harmThird.2.1 Y_T_harmThird.2.2.1 Y_T_harmThird.2.2.2 ∈ pj_ws) ∧ (Cond.initialized Y_T_harmThird.1.cls ∈ pj_ws) ∧ (Y_T_harmThird.1.cls ≠ "java/lang/invoke/MethodHandle" ∧ Y_T_harmThird.1.cls ≠ "java/lang/invoke/VarHandle" ∧ (parseMethodDescriptor Y_T_harmThird.1.desc).map (fun d => d.parameters.length) = some 1) ∧ (Cond.instanceMethod Y_T_harmThird.1 ∈ pj_ws) ∧ (Cond.selects Y_T_harmThird.1.cls Y_T_harmThird.1 Y_T_harmThird.1 ∈ pj_ws) := ⟨pj_mem 1082 (by decide +kernel) rfl, pj_mem 130 (by decide +kernel) rfl, ⟨by decide +kernel, by decide +kernel, by decide +kernel⟩, pj_mem 1080 (by decide +kernel) rfl, pj_mem 1081 (by decide +kernel) rfl⟩
theorem cm_M_harmThird : (Cond.code Y_M_harmThird.1 Y_M_harmThird.2.1 Y_M_harmThird.2.2.1 Y_M_harmThird.2.2.2 ∈ pj_ws) ∧ (Cond.initialized Y_M_harmThird.1.cls ∈ pj_ws) ∧ (Y_M_harmThird.1.cls ≠ "java/lang/invoke/MethodHandle" ∧ Y_M_harmThird.1.cls ≠ "java/lang/invoke/VarHandle" ∧ (parseMethodDescriptor Y_M_harmThird.1.desc).map (fun d => d.parameters.length) = some 1) ∧ (Cond.instanceMethod Y_M_harmThird.1 ∈ pj_ws) ∧ (Cond.selects Y_M_harmThird.1.cls Y_M_harmThird.1 Y_M_harmThird.1 ∈ pj_ws) := ⟨pj_mem 1991 (by decide +kernel) rfl, pj_mem 141 (by decide +kernel) rfl, ⟨by decide +kernel, by decide +kernel, by decide +kernel⟩, pj_mem 1989 (by decide +kernel) rfl, pj_mem 1990 (by decide +kernel) rfl⟩
theorem cm_T_stillTable : (Cond.code Y_T_stillTable.1 Y_T_stillTable.2.1 Y_T_stillTable.2.2.1 Y_T_stillTable.2.2.2 ∈ pj_ws) ∧ (Cond.initialized Y_T_stillTable.1.cls ∈ pj_ws) ∧ (Y_T_stillTable.1.cls ≠ "java/lang/invoke/MethodHandle" ∧ Y_T_stillTable.1.cls ≠ "java/lang/invoke/VarHandle" ∧ (parseMethodDescriptor Y_T_stillTable.1.desc).map (fun d => d.parameters.length) = some 0) ∧ (Cond.instanceMethod Y_T_stillTable.1 ∈ pj_ws) ∧ (Cond.selects Y_T_stillTable.1.cls Y_T_stillTable.1 Y_T_stillTable.1 ∈ pj_ws) := ⟨pj_mem 1086 (by decide +kernel) rfl, pj_mem 130 (by decide +kernel) rfl, ⟨by decide +kernel, by decide +kernel, by decide +kernel⟩, pj_mem 1084 (by decide +kernel) rfl, pj_mem 1085 (by decide +kernel) rfl⟩
theorem cm_M_stillTable : (Cond.code Y_M_stillTable.1 Y_M_stillTable.2.1 Y_M_stillTable.2.2.1 Y_M_stillTable.2.2.2 ∈ pj_ws) ∧ (Cond.initialized Y_M_stillTable.1.cls ∈ pj_ws) ∧ (Y_M_stillTable.1.cls ≠ "java/lang/invoke/MethodHandle" ∧ Y_M_stillTable.1.cls ≠ "java/lang/invoke/VarHandle" ∧ (parseMethodDescriptor Y_M_stillTable.1.desc).map (fun d => d.parameters.length) = some 0) ∧ (Cond.instanceMethod Y_M_stillTable.1 ∈ pj_ws) ∧ (Cond.selects Y_M_stillTable.1.cls Y_M_stillTable.1 Y_M_stillTable.1 ∈ pj_ws) := ⟨pj_mem 1995 (by decide +kernel) rfl, pj_mem 141 (by decide +kernel) rfl, ⟨by decide +kernel, by decide +kernel, by decide +kernel⟩, pj_mem 1993 (by decide +kernel) rfl, pj_mem 1994 (by decide +kernel) rfl⟩
theorem cm_T_rows : (Cond.code Y_T_rows.1 Y_T_rows.2.1 Y_T_rows.2.2.1 Y_T_rows.2.2.2 ∈ pj_ws) ∧ (Cond.initialized Y_T_rows.1.cls ∈ pj_ws) ∧ (Y_T_rows.1.cls ≠ "java/lang/invoke/MethodHandle" ∧ Y_T_rows.1.cls ≠ "java/lang/invoke/VarHandle" ∧ (parseMethodDescriptor Y_T_rows.1.desc).map (fun d => d.parameters.length) = some 1) ∧ (Cond.instanceMethod Y_T_rows.1 ∈ pj_ws) ∧ (Cond.selects Y_T_rows.1.cls Y_T_rows.1 Y_T_rows.1 ∈ pj_ws) := ⟨pj_mem 1090 (by decide +kernel) rfl, pj_mem 130 (by decide +kernel) rfl, ⟨by decide +kernel, by decide +kernel, by decide +kernel⟩, pj_mem 1088 (by decide +kernel) rfl, pj_mem 1089 (by decide +kernel) rfl⟩
theorem cm_M_rows : (Cond.code Y_M_rows.1 Y_M_rows.2.1 Y_M_rows.2.2.1 Y_M_rows.2.2.2 ∈ pj_ws) ∧ (Cond.initialized Y_M_rows.1.cls ∈ pj_ws) ∧ (Y_M_rows.1.cls ≠ "java/lang/invoke/MethodHandle" ∧ Y_M_rows.1.cls ≠ "java/lang/invoke/VarHandle" ∧ (parseMethodDescriptor Y_M_rows.1.desc).map (fun d => d.parameters.length) = some 1) ∧ (Cond.instanceMethod Y_M_rows.1 ∈ pj_ws) ∧ (Cond.selects Y_M_rows.1.cls Y_M_rows.1 Y_M_rows.1 ∈ pj_ws) := ⟨pj_mem 1999 (by decide +kernel) rfl, pj_mem 141 (by decide +kernel) rfl, ⟨by decide +kernel, by decide +kernel, by decide +kernel⟩, pj_mem 1997 (by decide +kernel) rfl, pj_mem 1998 (by decide +kernel) rfl⟩
theorem cm_T_could : (Cond.code Y_T_could.1 Y_T_could.2.1 Y_T_could.2.2.1 Y_T_could.2.2.2 ∈ pj_ws) ∧ (Cond.initialized Y_T_could.1.cls ∈ pj_ws) ∧ (Y_T_could.1.cls ≠ "java/lang/invoke/MethodHandle" ∧ Y_T_could.1.cls ≠ "java/lang/invoke/VarHandle" ∧ (parseMethodDescriptor Y_T_could.1.desc).map (fun d => d.parameters.length) = some 1) ∧ (Cond.instanceMethod Y_T_could.1 ∈ pj_ws) ∧ (Cond.selects Y_T_could.1.cls Y_T_could.1 Y_T_could.1 ∈ pj_ws) := ⟨pj_mem 1120 (by decide +kernel) rfl, pj_mem 130 (by decide +kernel) rfl, ⟨by decide +kernel, by decide +kernel, by decide +kernel⟩, pj_mem 1118 (by decide +kernel) rfl, pj_mem 1119 (by decide +kernel) rfl⟩
theorem cm_M_could : (Cond.code Y_M_could.1 Y_M_could.2.1 Y_M_could.2.2.1 Y_M_could.2.2.2 ∈ pj_ws) ∧ (Cond.initialized Y_M_could.1.cls ∈ pj_ws) ∧ (Y_M_could.1.cls ≠ "java/lang/invoke/MethodHandle" ∧ Y_M_could.1.cls ≠ "java/lang/invoke/VarHandle" ∧ (parseMethodDescriptor Y_M_could.1.desc).map (fun d => d.parameters.length) = some 1) ∧ (Cond.instanceMethod Y_M_could.1 ∈ pj_ws) ∧ (Cond.selects Y_M_could.1.cls Y_M_could.1 Y_M_could.1 ∈ pj_ws) := ⟨pj_mem 2019 (by decide +kernel) rfl, pj_mem 141 (by decide +kernel) rfl, ⟨by decide +kernel, by decide +kernel, by decide +kernel⟩, pj_mem 2017 (by decide +kernel) rfl, pj_mem 2018 (by decide +kernel) rfl⟩
theorem cm_T_surely : (Cond.code Y_T_surely.1 Y_T_surely.2.1 Y_T_surely.2.2.1 Y_T_surely.2.2.2 ∈ pj_ws) ∧ (Cond.initialized Y_T_surely.1.cls ∈ pj_ws) ∧ (Y_T_surely.1.cls ≠ "java/lang/invoke/MethodHandle" ∧ Y_T_surely.1.cls ≠ "java/lang/invoke/VarHandle" ∧ (parseMethodDescriptor Y_T_surely.1.desc).map (fun d => d.parameters.length) = some 1) ∧ (Cond.instanceMethod Y_T_surely.1 ∈ pj_ws) ∧ (Cond.selects Y_T_surely.1.cls Y_T_surely.1 Y_T_surely.1 ∈ pj_ws) := ⟨pj_mem 1132 (by decide +kernel) rfl, pj_mem 130 (by decide +kernel) rfl, ⟨by decide +kernel, by decide +kernel, by decide +kernel⟩, pj_mem 1130 (by decide +kernel) rfl, pj_mem 1131 (by decide +kernel) rfl⟩
theorem cm_M_surely : (Cond.code Y_M_surely.1 Y_M_surely.2.1 Y_M_surely.2.2.1 Y_M_surely.2.2.2 ∈ pj_ws) ∧ (Cond.initialized Y_M_surely.1.cls ∈ pj_ws) ∧ (Y_M_surely.1.cls ≠ "java/lang/invoke/MethodHandle" ∧ Y_M_surely.1.cls ≠ "java/lang/invoke/VarHandle" ∧ (parseMethodDescriptor Y_M_surely.1.desc).map (fun d => d.parameters.length) = some 1) ∧ (Cond.instanceMethod Y_M_surely.1 ∈ pj_ws) ∧ (Cond.selects Y_M_surely.1.cls Y_M_surely.1 Y_M_surely.1 ∈ pj_ws) := ⟨pj_mem 2031 (by decide +kernel) rfl, pj_mem 141 (by decide +kernel) rfl, ⟨by decide +kernel, by decide +kernel, by decide +kernel⟩, pj_mem 2029 (by decide +kernel) rfl, pj_mem 2030 (by decide +kernel) rfl⟩
theorem cm_T_firstOf : (Cond.code Y_T_firstOf.1 Y_T_firstOf.2.1 Y_T_firstOf.2.2.1 Y_T_firstOf.2.2.2 ∈ pj_ws) ∧ (Cond.initialized Y_T_firstOf.1.cls ∈ pj_ws) ∧ (Y_T_firstOf.1.cls ≠ "java/lang/invoke/MethodHandle" ∧ Y_T_firstOf.1.cls ≠ "java/lang/invoke/VarHandle" ∧ (parseMethodDescriptor Y_T_firstOf.1.desc).map (fun d => d.parameters.length) = some 1) ∧ (Cond.instanceMethod Y_T_firstOf.1 ∈ pj_ws) ∧ (Cond.selects Y_T_firstOf.1.cls Y_T_firstOf.1 Y_T_firstOf.1 ∈ pj_ws) := ⟨pj_mem 1140 (by decide +kernel) rfl, pj_mem 130 (by decide +kernel) rfl, ⟨by decide +kernel, by decide +kernel, by decide +kernel⟩, pj_mem 1138 (by decide +kernel) rfl, pj_mem 1139 (by decide +kernel) rfl⟩
theorem cm_M_firstOf : (Cond.code Y_M_firstOf.1 Y_M_firstOf.2.1 Y_M_firstOf.2.2.1 Y_M_firstOf.2.2.2 ∈ pj_ws) ∧ (Cond.initialized Y_M_firstOf.1.cls ∈ pj_ws) ∧ (Y_M_firstOf.1.cls ≠ "java/lang/invoke/MethodHandle" ∧ Y_M_firstOf.1.cls ≠ "java/lang/invoke/VarHandle" ∧ (parseMethodDescriptor Y_M_firstOf.1.desc).map (fun d => d.parameters.length) = some 1) ∧ (Cond.instanceMethod Y_M_firstOf.1 ∈ pj_ws) ∧ (Cond.selects Y_M_firstOf.1.cls Y_M_firstOf.1 Y_M_firstOf.1 ∈ pj_ws) := ⟨pj_mem 2035 (by decide +kernel) rfl, pj_mem 141 (by decide +kernel) rfl, ⟨by decide +kernel, by decide +kernel, by decide +kernel⟩, pj_mem 2033 (by decide +kernel) rfl, pj_mem 2034 (by decide +kernel) rfl⟩
theorem cm_T_ask : (Cond.code Y_T_ask.1 Y_T_ask.2.1 Y_T_ask.2.2.1 Y_T_ask.2.2.2 ∈ pj_ws) ∧ (Cond.initialized Y_T_ask.1.cls ∈ pj_ws) ∧ (Y_T_ask.1.cls ≠ "java/lang/invoke/MethodHandle" ∧ Y_T_ask.1.cls ≠ "java/lang/invoke/VarHandle" ∧ (parseMethodDescriptor Y_T_ask.1.desc).map (fun d => d.parameters.length) = some 0) ∧ (Cond.instanceMethod Y_T_ask.1 ∈ pj_ws) ∧ (Cond.selects Y_T_ask.1.cls Y_T_ask.1 Y_T_ask.1 ∈ pj_ws) := ⟨pj_mem 1144 (by decide +kernel) rfl, pj_mem 130 (by decide +kernel) rfl, ⟨by decide +kernel, by decide +kernel, by decide +kernel⟩, pj_mem 1142 (by decide +kernel) rfl, pj_mem 1143 (by decide +kernel) rfl⟩
theorem cm_T_init : (Cond.code Y_T_init.1 Y_T_init.2.1 Y_T_init.2.2.1 Y_T_init.2.2.2 ∈ pj_ws) ∧ (Cond.initialized Y_T_init.1.cls ∈ pj_ws) ∧ (Y_T_init.1.cls ≠ "java/lang/invoke/MethodHandle" ∧ Y_T_init.1.cls ≠ "java/lang/invoke/VarHandle" ∧ (parseMethodDescriptor Y_T_init.1.desc).map (fun d => d.parameters.length) = some 0) ∧ (Cond.instanceMethod Y_T_init.1 ∈ pj_ws) ∧ True := ⟨pj_mem 159 (by decide +kernel) rfl, pj_mem 130 (by decide +kernel) rfl, ⟨by decide +kernel, by decide +kernel, by decide +kernel⟩, pj_mem 158 (by decide +kernel) rfl, trivial⟩
theorem cm_M_ask : (Cond.code Y_M_ask.1 Y_M_ask.2.1 Y_M_ask.2.2.1 Y_M_ask.2.2.2 ∈ pj_ws) ∧ (Cond.initialized Y_M_ask.1.cls ∈ pj_ws) ∧ (Y_M_ask.1.cls ≠ "java/lang/invoke/MethodHandle" ∧ Y_M_ask.1.cls ≠ "java/lang/invoke/VarHandle" ∧ (parseMethodDescriptor Y_M_ask.1.desc).map (fun d => d.parameters.length) = some 0) ∧ (Cond.instanceMethod Y_M_ask.1 ∈ pj_ws) ∧ (Cond.selects Y_M_ask.1.cls Y_M_ask.1 Y_M_ask.1 ∈ pj_ws) := ⟨pj_mem 2039 (by decide +kernel) rfl, pj_mem 141 (by decide +kernel) rfl, ⟨by decide +kernel, by decide +kernel, by decide +kernel⟩, pj_mem 2037 (by decide +kernel) rfl, pj_mem 2038 (by decide +kernel) rfl⟩
theorem cm_T_askLeaves : (Cond.code Y_T_askLeaves.1 Y_T_askLeaves.2.1 Y_T_askLeaves.2.2.1 Y_T_askLeaves.2.2.2 ∈ pj_ws) ∧ (Cond.initialized Y_T_askLeaves.1.cls ∈ pj_ws) ∧ (Y_T_askLeaves.1.cls ≠ "java/lang/invoke/MethodHandle" ∧ Y_T_askLeaves.1.cls ≠ "java/lang/invoke/VarHandle" ∧ (parseMethodDescriptor Y_T_askLeaves.1.desc).map (fun d => d.parameters.length) = some 0) ∧ (Cond.instanceMethod Y_T_askLeaves.1 ∈ pj_ws) ∧ (Cond.selects Y_T_askLeaves.1.cls Y_T_askLeaves.1 Y_T_askLeaves.1 ∈ pj_ws) := ⟨pj_mem 1163 (by decide +kernel) rfl, pj_mem 130 (by decide +kernel) rfl, ⟨by decide +kernel, by decide +kernel, by decide +kernel⟩, pj_mem 1161 (by decide +kernel) rfl, pj_mem 1162 (by decide +kernel) rfl⟩
theorem cm_M_askLeaves : (Cond.code Y_M_askLeaves.1 Y_M_askLeaves.2.1 Y_M_askLeaves.2.2.1 Y_M_askLeaves.2.2.2 ∈ pj_ws) ∧ (Cond.initialized Y_M_askLeaves.1.cls ∈ pj_ws) ∧ (Y_M_askLeaves.1.cls ≠ "java/lang/invoke/MethodHandle" ∧ Y_M_askLeaves.1.cls ≠ "java/lang/invoke/VarHandle" ∧ (parseMethodDescriptor Y_M_askLeaves.1.desc).map (fun d => d.parameters.length) = some 0) ∧ (Cond.instanceMethod Y_M_askLeaves.1 ∈ pj_ws) ∧ (Cond.selects Y_M_askLeaves.1.cls Y_M_askLeaves.1 Y_M_askLeaves.1 ∈ pj_ws) := ⟨pj_mem 2047 (by decide +kernel) rfl, pj_mem 141 (by decide +kernel) rfl, ⟨by decide +kernel, by decide +kernel, by decide +kernel⟩, pj_mem 2045 (by decide +kernel) rfl, pj_mem 2046 (by decide +kernel) rfl⟩
theorem cm_T_liar : (Cond.code Y_T_liar.1 Y_T_liar.2.1 Y_T_liar.2.2.1 Y_T_liar.2.2.2 ∈ pj_ws) ∧ (Cond.initialized Y_T_liar.1.cls ∈ pj_ws) ∧ (Y_T_liar.1.cls ≠ "java/lang/invoke/MethodHandle" ∧ Y_T_liar.1.cls ≠ "java/lang/invoke/VarHandle" ∧ (parseMethodDescriptor Y_T_liar.1.desc).map (fun d => d.parameters.length) = some 0) ∧ (Cond.instanceMethod Y_T_liar.1 ∈ pj_ws) ∧ (Cond.selects Y_T_liar.1.cls Y_T_liar.1 Y_T_liar.1 ∈ pj_ws) := ⟨pj_mem 1167 (by decide +kernel) rfl, pj_mem 130 (by decide +kernel) rfl, ⟨by decide +kernel, by decide +kernel, by decide +kernel⟩, pj_mem 1165 (by decide +kernel) rfl, pj_mem 1166 (by decide +kernel) rfl⟩
theorem cm_M_liar : (Cond.code Y_M_liar.1 Y_M_liar.2.1 Y_M_liar.2.2.1 Y_M_liar.2.2.2 ∈ pj_ws) ∧ (Cond.initialized Y_M_liar.1.cls ∈ pj_ws) ∧ (Y_M_liar.1.cls ≠ "java/lang/invoke/MethodHandle" ∧ Y_M_liar.1.cls ≠ "java/lang/invoke/VarHandle" ∧ (parseMethodDescriptor Y_M_liar.1.desc).map (fun d => d.parameters.length) = some 0) ∧ (Cond.instanceMethod Y_M_liar.1 ∈ pj_ws) ∧ (Cond.selects Y_M_liar.1.cls Y_M_liar.1 Y_M_liar.1 ∈ pj_ws) := ⟨pj_mem 2051 (by decide +kernel) rfl, pj_mem 141 (by decide +kernel) rfl, ⟨by decide +kernel, by decide +kernel, by decide +kernel⟩, pj_mem 2049 (by decide +kernel) rfl, pj_mem 2050 (by decide +kernel) rfl⟩
theorem cm_T_caught : (Cond.code Y_T_caught.1 Y_T_caught.2.1 Y_T_caught.2.2.1 Y_T_caught.2.2.2 ∈ pj_ws) ∧ (Cond.initialized Y_T_caught.1.cls ∈ pj_ws) ∧ (Y_T_caught.1.cls ≠ "java/lang/invoke/MethodHandle" ∧ Y_T_caught.1.cls ≠ "java/lang/invoke/VarHandle" ∧ (parseMethodDescriptor Y_T_caught.1.desc).map (fun d => d.parameters.length) = some 1) ∧ (Cond.instanceMethod Y_T_caught.1 ∈ pj_ws) ∧ (Cond.selects Y_T_caught.1.cls Y_T_caught.1 Y_T_caught.1 ∈ pj_ws) := ⟨pj_mem 1171 (by decide +kernel) rfl, pj_mem 130 (by decide +kernel) rfl, ⟨by decide +kernel, by decide +kernel, by decide +kernel⟩, pj_mem 1169 (by decide +kernel) rfl, pj_mem 1170 (by decide +kernel) rfl⟩
theorem cm_M_caught : (Cond.code Y_M_caught.1 Y_M_caught.2.1 Y_M_caught.2.2.1 Y_M_caught.2.2.2 ∈ pj_ws) ∧ (Cond.initialized Y_M_caught.1.cls ∈ pj_ws) ∧ (Y_M_caught.1.cls ≠ "java/lang/invoke/MethodHandle" ∧ Y_M_caught.1.cls ≠ "java/lang/invoke/VarHandle" ∧ (parseMethodDescriptor Y_M_caught.1.desc).map (fun d => d.parameters.length) = some 1) ∧ (Cond.instanceMethod Y_M_caught.1 ∈ pj_ws) ∧ (Cond.selects Y_M_caught.1.cls Y_M_caught.1 Y_M_caught.1 ∈ pj_ws) := ⟨pj_mem 2055 (by decide +kernel) rfl, pj_mem 141 (by decide +kernel) rfl, ⟨by decide +kernel, by decide +kernel, by decide +kernel⟩, pj_mem 2053 (by decide +kernel) rfl, pj_mem 2054 (by decide +kernel) rfl⟩
theorem cm_T_places : (Cond.code Y_T_places.1 Y_T_places.2.1 Y_T_places.2.2.1 Y_T_places.2.2.2 ∈ pj_ws) ∧ (Cond.initialized Y_T_places.1.cls ∈ pj_ws) ∧ (Y_T_places.1.cls ≠ "java/lang/invoke/MethodHandle" ∧ Y_T_places.1.cls ≠ "java/lang/invoke/VarHandle" ∧ (parseMethodDescriptor Y_T_places.1.desc).map (fun d => d.parameters.length) = some 1) ∧ (Cond.instanceMethod Y_T_places.1 ∈ pj_ws) ∧ (Cond.selects Y_T_places.1.cls Y_T_places.1 Y_T_places.1 ∈ pj_ws) := ⟨pj_mem 1185 (by decide +kernel) rfl, pj_mem 130 (by decide +kernel) rfl, ⟨by decide +kernel, by decide +kernel, by decide +kernel⟩, pj_mem 1183 (by decide +kernel) rfl, pj_mem 1184 (by decide +kernel) rfl⟩
theorem cm_M_places : (Cond.code Y_M_places.1 Y_M_places.2.1 Y_M_places.2.2.1 Y_M_places.2.2.2 ∈ pj_ws) ∧ (Cond.initialized Y_M_places.1.cls ∈ pj_ws) ∧ (Y_M_places.1.cls ≠ "java/lang/invoke/MethodHandle" ∧ Y_M_places.1.cls ≠ "java/lang/invoke/VarHandle" ∧ (parseMethodDescriptor Y_M_places.1.desc).map (fun d => d.parameters.length) = some 1) ∧ (Cond.instanceMethod Y_M_places.1 ∈ pj_ws) ∧ (Cond.selects Y_M_places.1.cls Y_M_places.1 Y_M_places.1 ∈ pj_ws) := ⟨pj_mem 2071 (by decide +kernel) rfl, pj_mem 141 (by decide +kernel) rfl, ⟨by decide +kernel, by decide +kernel, by decide +kernel⟩, pj_mem 2069 (by decide +kernel) rfl, pj_mem 2070 (by decide +kernel) rfl⟩
theorem cm_T_enough : (Cond.code Y_T_enough.1 Y_T_enough.2.1 Y_T_enough.2.2.1 Y_T_enough.2.2.2 ∈ pj_ws) ∧ (Cond.initialized Y_T_enough.1.cls ∈ pj_ws) ∧ (Y_T_enough.1.cls ≠ "java/lang/invoke/MethodHandle" ∧ Y_T_enough.1.cls ≠ "java/lang/invoke/VarHandle" ∧ (parseMethodDescriptor Y_T_enough.1.desc).map (fun d => d.parameters.length) = some 0) ∧ (Cond.instanceMethod Y_T_enough.1 ∈ pj_ws) ∧ (Cond.selects Y_T_enough.1.cls Y_T_enough.1 Y_T_enough.1 ∈ pj_ws) := ⟨pj_mem 1189 (by decide +kernel) rfl, pj_mem 130 (by decide +kernel) rfl, ⟨by decide +kernel, by decide +kernel, by decide +kernel⟩, pj_mem 1187 (by decide +kernel) rfl, pj_mem 1188 (by decide +kernel) rfl⟩
theorem cm_M_enough : (Cond.code Y_M_enough.1 Y_M_enough.2.1 Y_M_enough.2.2.1 Y_M_enough.2.2.2 ∈ pj_ws) ∧ (Cond.initialized Y_M_enough.1.cls ∈ pj_ws) ∧ (Y_M_enough.1.cls ≠ "java/lang/invoke/MethodHandle" ∧ Y_M_enough.1.cls ≠ "java/lang/invoke/VarHandle" ∧ (parseMethodDescriptor Y_M_enough.1.desc).map (fun d => d.parameters.length) = some 0) ∧ (Cond.instanceMethod Y_M_enough.1 ∈ pj_ws) ∧ (Cond.selects Y_M_enough.1.cls Y_M_enough.1 Y_M_enough.1 ∈ pj_ws) := ⟨pj_mem 2075 (by decide +kernel) rfl, pj_mem 141 (by decide +kernel) rfl, ⟨by decide +kernel, by decide +kernel, by decide +kernel⟩, pj_mem 2073 (by decide +kernel) rfl, pj_mem 2074 (by decide +kernel) rfl⟩
theorem cm_T_catches : (Cond.code Y_T_catches.1 Y_T_catches.2.1 Y_T_catches.2.2.1 Y_T_catches.2.2.2 ∈ pj_ws) ∧ (Cond.initialized Y_T_catches.1.cls ∈ pj_ws) ∧ (Y_T_catches.1.cls ≠ "java/lang/invoke/MethodHandle" ∧ Y_T_catches.1.cls ≠ "java/lang/invoke/VarHandle" ∧ (parseMethodDescriptor Y_T_catches.1.desc).map (fun d => d.parameters.length) = some 1) ∧ (Cond.instanceMethod Y_T_catches.1 ∈ pj_ws) ∧ (Cond.selects Y_T_catches.1.cls Y_T_catches.1 Y_T_catches.1 ∈ pj_ws) := ⟨pj_mem 1198 (by decide +kernel) rfl, pj_mem 130 (by decide +kernel) rfl, ⟨by decide +kernel, by decide +kernel, by decide +kernel⟩, pj_mem 1196 (by decide +kernel) rfl, pj_mem 1197 (by decide +kernel) rfl⟩
theorem cm_M_catches : (Cond.code Y_M_catches.1 Y_M_catches.2.1 Y_M_catches.2.2.1 Y_M_catches.2.2.2 ∈ pj_ws) ∧ (Cond.initialized Y_M_catches.1.cls ∈ pj_ws) ∧ (Y_M_catches.1.cls ≠ "java/lang/invoke/MethodHandle" ∧ Y_M_catches.1.cls ≠ "java/lang/invoke/VarHandle" ∧ (parseMethodDescriptor Y_M_catches.1.desc).map (fun d => d.parameters.length) = some 1) ∧ (Cond.instanceMethod Y_M_catches.1 ∈ pj_ws) ∧ (Cond.selects Y_M_catches.1.cls Y_M_catches.1 Y_M_catches.1 ∈ pj_ws) := ⟨pj_mem 2079 (by decide +kernel) rfl, pj_mem 141 (by decide +kernel) rfl, ⟨by decide +kernel, by decide +kernel, by decide +kernel⟩, pj_mem 2077 (by decide +kernel) rfl, pj_mem 2078 (by decide +kernel) rfl⟩
theorem cm_T_two : (Cond.code Y_T_two.1 Y_T_two.2.1 Y_T_two.2.2.1 Y_T_two.2.2.2 ∈ pj_ws) ∧ (Cond.initialized Y_T_two.1.cls ∈ pj_ws) ∧ (Y_T_two.1.cls ≠ "java/lang/invoke/MethodHandle" ∧ Y_T_two.1.cls ≠ "java/lang/invoke/VarHandle" ∧ (parseMethodDescriptor Y_T_two.1.desc).map (fun d => d.parameters.length) = some 5) ∧ (Cond.instanceMethod Y_T_two.1 ∈ pj_ws) ∧ (Cond.selects Y_T_two.1.cls Y_T_two.1 Y_T_two.1 ∈ pj_ws) := ⟨pj_mem 1202 (by decide +kernel) rfl, pj_mem 130 (by decide +kernel) rfl, ⟨by decide +kernel, by decide +kernel, by decide +kernel⟩, pj_mem 1200 (by decide +kernel) rfl, pj_mem 1201 (by decide +kernel) rfl⟩
theorem cm_M_init : (Cond.code Y_M_init.1 Y_M_init.2.1 Y_M_init.2.2.1 Y_M_init.2.2.2 ∈ pj_ws) ∧ (Cond.initialized Y_M_init.1.cls ∈ pj_ws) ∧ (Y_M_init.1.cls ≠ "java/lang/invoke/MethodHandle" ∧ Y_M_init.1.cls ≠ "java/lang/invoke/VarHandle" ∧ (parseMethodDescriptor Y_M_init.1.desc).map (fun d => d.parameters.length) = some 0) ∧ (Cond.instanceMethod Y_M_init.1 ∈ pj_ws) ∧ True := ⟨pj_mem 1385 (by decide +kernel) rfl, pj_mem 141 (by decide +kernel) rfl, ⟨by decide +kernel, by decide +kernel, by decide +kernel⟩, pj_mem 1384 (by decide +kernel) rfl, trivial⟩
theorem cm_M_two : (Cond.code Y_M_two.1 Y_M_two.2.1 Y_M_two.2.2.1 Y_M_two.2.2.2 ∈ pj_ws) ∧ (Cond.initialized Y_M_two.1.cls ∈ pj_ws) ∧ (Y_M_two.1.cls ≠ "java/lang/invoke/MethodHandle" ∧ Y_M_two.1.cls ≠ "java/lang/invoke/VarHandle" ∧ (parseMethodDescriptor Y_M_two.1.desc).map (fun d => d.parameters.length) = some 5) ∧ (Cond.instanceMethod Y_M_two.1 ∈ pj_ws) ∧ (Cond.selects Y_M_two.1.cls Y_M_two.1 Y_M_two.1 ∈ pj_ws) := ⟨pj_mem 2083 (by decide +kernel) rfl, pj_mem 141 (by decide +kernel) rfl, ⟨by decide +kernel, by decide +kernel, by decide +kernel⟩, pj_mem 2081 (by decide +kernel) rfl, pj_mem 2082 (by decide +kernel) rfl⟩
theorem cm_T_rests : (Cond.code Y_T_rests.1 Y_T_rests.2.1 Y_T_rests.2.2.1 Y_T_rests.2.2.2 ∈ pj_ws) ∧ (Cond.initialized Y_T_rests.1.cls ∈ pj_ws) ∧ (Y_T_rests.1.cls ≠ "java/lang/invoke/MethodHandle" ∧ Y_T_rests.1.cls ≠ "java/lang/invoke/VarHandle" ∧ (parseMethodDescriptor Y_T_rests.1.desc).map (fun d => d.parameters.length) = some 2) ∧ (Cond.instanceMethod Y_T_rests.1 ∈ pj_ws) ∧ (Cond.selects Y_T_rests.1.cls Y_T_rests.1 Y_T_rests.1 ∈ pj_ws) := ⟨pj_mem 1214 (by decide +kernel) rfl, pj_mem 130 (by decide +kernel) rfl, ⟨by decide +kernel, by decide +kernel, by decide +kernel⟩, pj_mem 1212 (by decide +kernel) rfl, pj_mem 1213 (by decide +kernel) rfl⟩
theorem cm_M_rests : (Cond.code Y_M_rests.1 Y_M_rests.2.1 Y_M_rests.2.2.1 Y_M_rests.2.2.2 ∈ pj_ws) ∧ (Cond.initialized Y_M_rests.1.cls ∈ pj_ws) ∧ (Y_M_rests.1.cls ≠ "java/lang/invoke/MethodHandle" ∧ Y_M_rests.1.cls ≠ "java/lang/invoke/VarHandle" ∧ (parseMethodDescriptor Y_M_rests.1.desc).map (fun d => d.parameters.length) = some 2) ∧ (Cond.instanceMethod Y_M_rests.1 ∈ pj_ws) ∧ (Cond.selects Y_M_rests.1.cls Y_M_rests.1 Y_M_rests.1 ∈ pj_ws) := ⟨pj_mem 2099 (by decide +kernel) rfl, pj_mem 141 (by decide +kernel) rfl, ⟨by decide +kernel, by decide +kernel, by decide +kernel⟩, pj_mem 2097 (by decide +kernel) rfl, pj_mem 2098 (by decide +kernel) rfl⟩
theorem cm_T_rest : (Cond.code Y_T_rest.1 Y_T_rest.2.1 Y_T_rest.2.2.1 Y_T_rest.2.2.2 ∈ pj_ws) ∧ (Cond.initialized Y_T_rest.1.cls ∈ pj_ws) ∧ (Y_T_rest.1.cls ≠ "java/lang/invoke/MethodHandle" ∧ Y_T_rest.1.cls ≠ "java/lang/invoke/VarHandle" ∧ (parseMethodDescriptor Y_T_rest.1.desc).map (fun d => d.parameters.length) = some 2) ∧ (Cond.instanceMethod Y_T_rest.1 ∈ pj_ws) ∧ (Cond.selects Y_T_rest.1.cls Y_T_rest.1 Y_T_rest.1 ∈ pj_ws) := ⟨pj_mem 1222 (by decide +kernel) rfl, pj_mem 130 (by decide +kernel) rfl, ⟨by decide +kernel, by decide +kernel, by decide +kernel⟩, pj_mem 1220 (by decide +kernel) rfl, pj_mem 1221 (by decide +kernel) rfl⟩
theorem cm_M_rest : (Cond.code Y_M_rest.1 Y_M_rest.2.1 Y_M_rest.2.2.1 Y_M_rest.2.2.2 ∈ pj_ws) ∧ (Cond.initialized Y_M_rest.1.cls ∈ pj_ws) ∧ (Y_M_rest.1.cls ≠ "java/lang/invoke/MethodHandle" ∧ Y_M_rest.1.cls ≠ "java/lang/invoke/VarHandle" ∧ (parseMethodDescriptor Y_M_rest.1.desc).map (fun d => d.parameters.length) = some 2) ∧ (Cond.instanceMethod Y_M_rest.1 ∈ pj_ws) ∧ (Cond.selects Y_M_rest.1.cls Y_M_rest.1 Y_M_rest.1 ∈ pj_ws) := ⟨pj_mem 2107 (by decide +kernel) rfl, pj_mem 141 (by decide +kernel) rfl, ⟨by decide +kernel, by decide +kernel, by decide +kernel⟩, pj_mem 2105 (by decide +kernel) rfl, pj_mem 2106 (by decide +kernel) rfl⟩
theorem cm_T_year : (Cond.code Y_T_year.1 Y_T_year.2.1 Y_T_year.2.2.1 Y_T_year.2.2.2 ∈ pj_ws) ∧ (Cond.initialized Y_T_year.1.cls ∈ pj_ws) ∧ (Y_T_year.1.cls ≠ "java/lang/invoke/MethodHandle" ∧ Y_T_year.1.cls ≠ "java/lang/invoke/VarHandle" ∧ (parseMethodDescriptor Y_T_year.1.desc).map (fun d => d.parameters.length) = some 2) ∧ (Cond.instanceMethod Y_T_year.1 ∈ pj_ws) ∧ (Cond.selects Y_T_year.1.cls Y_T_year.1 Y_T_year.1 ∈ pj_ws) := ⟨pj_mem 1226 (by decide +kernel) rfl, pj_mem 130 (by decide +kernel) rfl, ⟨by decide +kernel, by decide +kernel, by decide +kernel⟩, pj_mem 1224 (by decide +kernel) rfl, pj_mem 1225 (by decide +kernel) rfl⟩
theorem cm_T_feed : (Cond.code Y_T_feed.1 Y_T_feed.2.1 Y_T_feed.2.2.1 Y_T_feed.2.2.2 ∈ pj_ws) ∧ (Cond.initialized Y_T_feed.1.cls ∈ pj_ws) ∧ (Y_T_feed.1.cls ≠ "java/lang/invoke/MethodHandle" ∧ Y_T_feed.1.cls ≠ "java/lang/invoke/VarHandle" ∧ (parseMethodDescriptor Y_T_feed.1.desc).map (fun d => d.parameters.length) = some 5) ∧ (Cond.instanceMethod Y_T_feed.1 ∈ pj_ws) ∧ (Cond.selects Y_T_feed.1.cls Y_T_feed.1 Y_T_feed.1 ∈ pj_ws) := ⟨pj_mem 599 (by decide +kernel) rfl, pj_mem 130 (by decide +kernel) rfl, ⟨by decide +kernel, by decide +kernel, by decide +kernel⟩, pj_mem 597 (by decide +kernel) rfl, pj_mem 598 (by decide +kernel) rfl⟩
theorem cm_M_year : (Cond.code Y_M_year.1 Y_M_year.2.1 Y_M_year.2.2.1 Y_M_year.2.2.2 ∈ pj_ws) ∧ (Cond.initialized Y_M_year.1.cls ∈ pj_ws) ∧ (Y_M_year.1.cls ≠ "java/lang/invoke/MethodHandle" ∧ Y_M_year.1.cls ≠ "java/lang/invoke/VarHandle" ∧ (parseMethodDescriptor Y_M_year.1.desc).map (fun d => d.parameters.length) = some 2) ∧ (Cond.instanceMethod Y_M_year.1 ∈ pj_ws) ∧ (Cond.selects Y_M_year.1.cls Y_M_year.1 Y_M_year.1 ∈ pj_ws) := ⟨pj_mem 2111 (by decide +kernel) rfl, pj_mem 141 (by decide +kernel) rfl, ⟨by decide +kernel, by decide +kernel, by decide +kernel⟩, pj_mem 2109 (by decide +kernel) rfl, pj_mem 2110 (by decide +kernel) rfl⟩
theorem cm_T_yearHeld : (Cond.code Y_T_yearHeld.1 Y_T_yearHeld.2.1 Y_T_yearHeld.2.2.1 Y_T_yearHeld.2.2.2 ∈ pj_ws) ∧ (Cond.initialized Y_T_yearHeld.1.cls ∈ pj_ws) ∧ (Y_T_yearHeld.1.cls ≠ "java/lang/invoke/MethodHandle" ∧ Y_T_yearHeld.1.cls ≠ "java/lang/invoke/VarHandle" ∧ (parseMethodDescriptor Y_T_yearHeld.1.desc).map (fun d => d.parameters.length) = some 3) ∧ (Cond.instanceMethod Y_T_yearHeld.1 ∈ pj_ws) ∧ (Cond.selects Y_T_yearHeld.1.cls Y_T_yearHeld.1 Y_T_yearHeld.1 ∈ pj_ws) := ⟨pj_mem 1246 (by decide +kernel) rfl, pj_mem 130 (by decide +kernel) rfl, ⟨by decide +kernel, by decide +kernel, by decide +kernel⟩, pj_mem 1244 (by decide +kernel) rfl, pj_mem 1245 (by decide +kernel) rfl⟩
theorem cm_M_yearHeld : (Cond.code Y_M_yearHeld.1 Y_M_yearHeld.2.1 Y_M_yearHeld.2.2.1 Y_M_yearHeld.2.2.2 ∈ pj_ws) ∧ (Cond.initialized Y_M_yearHeld.1.cls ∈ pj_ws) ∧ (Y_M_yearHeld.1.cls ≠ "java/lang/invoke/MethodHandle" ∧ Y_M_yearHeld.1.cls ≠ "java/lang/invoke/VarHandle" ∧ (parseMethodDescriptor Y_M_yearHeld.1.desc).map (fun d => d.parameters.length) = some 3) ∧ (Cond.instanceMethod Y_M_yearHeld.1 ∈ pj_ws) ∧ (Cond.selects Y_M_yearHeld.1.cls Y_M_yearHeld.1 Y_M_yearHeld.1 ∈ pj_ws) := ⟨pj_mem 2139 (by decide +kernel) rfl, pj_mem 141 (by decide +kernel) rfl, ⟨by decide +kernel, by decide +kernel, by decide +kernel⟩, pj_mem 2137 (by decide +kernel) rfl, pj_mem 2138 (by decide +kernel) rfl⟩
theorem cm_T_yearChanges : (Cond.code Y_T_yearChanges.1 Y_T_yearChanges.2.1 Y_T_yearChanges.2.2.1 Y_T_yearChanges.2.2.2 ∈ pj_ws) ∧ (Cond.initialized Y_T_yearChanges.1.cls ∈ pj_ws) ∧ (Y_T_yearChanges.1.cls ≠ "java/lang/invoke/MethodHandle" ∧ Y_T_yearChanges.1.cls ≠ "java/lang/invoke/VarHandle" ∧ (parseMethodDescriptor Y_T_yearChanges.1.desc).map (fun d => d.parameters.length) = some 2) ∧ (Cond.instanceMethod Y_T_yearChanges.1 ∈ pj_ws) ∧ (Cond.selects Y_T_yearChanges.1.cls Y_T_yearChanges.1 Y_T_yearChanges.1 ∈ pj_ws) := ⟨pj_mem 1250 (by decide +kernel) rfl, pj_mem 130 (by decide +kernel) rfl, ⟨by decide +kernel, by decide +kernel, by decide +kernel⟩, pj_mem 1248 (by decide +kernel) rfl, pj_mem 1249 (by decide +kernel) rfl⟩
theorem cm_M_yearChanges : (Cond.code Y_M_yearChanges.1 Y_M_yearChanges.2.1 Y_M_yearChanges.2.2.1 Y_M_yearChanges.2.2.2 ∈ pj_ws) ∧ (Cond.initialized Y_M_yearChanges.1.cls ∈ pj_ws) ∧ (Y_M_yearChanges.1.cls ≠ "java/lang/invoke/MethodHandle" ∧ Y_M_yearChanges.1.cls ≠ "java/lang/invoke/VarHandle" ∧ (parseMethodDescriptor Y_M_yearChanges.1.desc).map (fun d => d.parameters.length) = some 2) ∧ (Cond.instanceMethod Y_M_yearChanges.1 ∈ pj_ws) ∧ (Cond.selects Y_M_yearChanges.1.cls Y_M_yearChanges.1 Y_M_yearChanges.1 ∈ pj_ws) := ⟨pj_mem 2143 (by decide +kernel) rfl, pj_mem 141 (by decide +kernel) rfl, ⟨by decide +kernel, by decide +kernel, by decide +kernel⟩, pj_mem 2141 (by decide +kernel) rfl, pj_mem 2142 (by decide +kernel) rfl⟩
theorem cm_T_change : (Cond.code Y_T_change.1 Y_T_change.2.1 Y_T_change.2.2.1 Y_T_change.2.2.2 ∈ pj_ws) ∧ (Cond.initialized Y_T_change.1.cls ∈ pj_ws) ∧ (Y_T_change.1.cls ≠ "java/lang/invoke/MethodHandle" ∧ Y_T_change.1.cls ≠ "java/lang/invoke/VarHandle" ∧ (parseMethodDescriptor Y_T_change.1.desc).map (fun d => d.parameters.length) = some 2) ∧ (Cond.instanceMethod Y_T_change.1 ∈ pj_ws) ∧ (Cond.selects Y_T_change.1.cls Y_T_change.1 Y_T_change.1 ∈ pj_ws) := ⟨pj_mem 1258 (by decide +kernel) rfl, pj_mem 130 (by decide +kernel) rfl, ⟨by decide +kernel, by decide +kernel, by decide +kernel⟩, pj_mem 1256 (by decide +kernel) rfl, pj_mem 1257 (by decide +kernel) rfl⟩
theorem cm_M_change : (Cond.code Y_M_change.1 Y_M_change.2.1 Y_M_change.2.2.1 Y_M_change.2.2.2 ∈ pj_ws) ∧ (Cond.initialized Y_M_change.1.cls ∈ pj_ws) ∧ (Y_M_change.1.cls ≠ "java/lang/invoke/MethodHandle" ∧ Y_M_change.1.cls ≠ "java/lang/invoke/VarHandle" ∧ (parseMethodDescriptor Y_M_change.1.desc).map (fun d => d.parameters.length) = some 2) ∧ (Cond.instanceMethod Y_M_change.1 ∈ pj_ws) ∧ (Cond.selects Y_M_change.1.cls Y_M_change.1 Y_M_change.1 ∈ pj_ws) := ⟨pj_mem 2147 (by decide +kernel) rfl, pj_mem 141 (by decide +kernel) rfl, ⟨by decide +kernel, by decide +kernel, by decide +kernel⟩, pj_mem 2145 (by decide +kernel) rfl, pj_mem 2146 (by decide +kernel) rfl⟩
theorem cm_T_hours : (Cond.code Y_T_hours.1 Y_T_hours.2.1 Y_T_hours.2.2.1 Y_T_hours.2.2.2 ∈ pj_ws) ∧ (Cond.initialized Y_T_hours.1.cls ∈ pj_ws) ∧ (Y_T_hours.1.cls ≠ "java/lang/invoke/MethodHandle" ∧ Y_T_hours.1.cls ≠ "java/lang/invoke/VarHandle" ∧ (parseMethodDescriptor Y_T_hours.1.desc).map (fun d => d.parameters.length) = some 1) ∧ (Cond.instanceMethod Y_T_hours.1 ∈ pj_ws) ∧ (Cond.selects Y_T_hours.1.cls Y_T_hours.1 Y_T_hours.1 ∈ pj_ws) := ⟨pj_mem 1267 (by decide +kernel) rfl, pj_mem 130 (by decide +kernel) rfl, ⟨by decide +kernel, by decide +kernel, by decide +kernel⟩, pj_mem 1265 (by decide +kernel) rfl, pj_mem 1266 (by decide +kernel) rfl⟩
theorem cm_M_hours : (Cond.code Y_M_hours.1 Y_M_hours.2.1 Y_M_hours.2.2.1 Y_M_hours.2.2.2 ∈ pj_ws) ∧ (Cond.initialized Y_M_hours.1.cls ∈ pj_ws) ∧ (Y_M_hours.1.cls ≠ "java/lang/invoke/MethodHandle" ∧ Y_M_hours.1.cls ≠ "java/lang/invoke/VarHandle" ∧ (parseMethodDescriptor Y_M_hours.1.desc).map (fun d => d.parameters.length) = some 1) ∧ (Cond.instanceMethod Y_M_hours.1 ∈ pj_ws) ∧ (Cond.selects Y_M_hours.1.cls Y_M_hours.1 Y_M_hours.1 ∈ pj_ws) := ⟨pj_mem 2155 (by decide +kernel) rfl, pj_mem 141 (by decide +kernel) rfl, ⟨by decide +kernel, by decide +kernel, by decide +kernel⟩, pj_mem 2153 (by decide +kernel) rfl, pj_mem 2154 (by decide +kernel) rfl⟩
theorem cm_T_seed : (Cond.code Y_T_seed.1 Y_T_seed.2.1 Y_T_seed.2.2.1 Y_T_seed.2.2.2 ∈ pj_ws) ∧ (Cond.initialized Y_T_seed.1.cls ∈ pj_ws) ∧ (Y_T_seed.1.cls ≠ "java/lang/invoke/MethodHandle" ∧ Y_T_seed.1.cls ≠ "java/lang/invoke/VarHandle" ∧ (parseMethodDescriptor Y_T_seed.1.desc).map (fun d => d.parameters.length) = some 1) ∧ (Cond.instanceMethod Y_T_seed.1 ∈ pj_ws) ∧ (Cond.selects Y_T_seed.1.cls Y_T_seed.1 Y_T_seed.1 ∈ pj_ws) := ⟨pj_mem 1271 (by decide +kernel) rfl, pj_mem 130 (by decide +kernel) rfl, ⟨by decide +kernel, by decide +kernel, by decide +kernel⟩, pj_mem 1269 (by decide +kernel) rfl, pj_mem 1270 (by decide +kernel) rfl⟩
theorem cm_M_seed : (Cond.code Y_M_seed.1 Y_M_seed.2.1 Y_M_seed.2.2.1 Y_M_seed.2.2.2 ∈ pj_ws) ∧ (Cond.initialized Y_M_seed.1.cls ∈ pj_ws) ∧ (Y_M_seed.1.cls ≠ "java/lang/invoke/MethodHandle" ∧ Y_M_seed.1.cls ≠ "java/lang/invoke/VarHandle" ∧ (parseMethodDescriptor Y_M_seed.1.desc).map (fun d => d.parameters.length) = some 1) ∧ (Cond.instanceMethod Y_M_seed.1 ∈ pj_ws) ∧ (Cond.selects Y_M_seed.1.cls Y_M_seed.1 Y_M_seed.1 ∈ pj_ws) := ⟨pj_mem 2159 (by decide +kernel) rfl, pj_mem 141 (by decide +kernel) rfl, ⟨by decide +kernel, by decide +kernel, by decide +kernel⟩, pj_mem 2157 (by decide +kernel) rfl, pj_mem 2158 (by decide +kernel) rfl⟩
theorem cm_T_undo : (Cond.code Y_T_undo.1 Y_T_undo.2.1 Y_T_undo.2.2.1 Y_T_undo.2.2.2 ∈ pj_ws) ∧ (Cond.initialized Y_T_undo.1.cls ∈ pj_ws) ∧ (Y_T_undo.1.cls ≠ "java/lang/invoke/MethodHandle" ∧ Y_T_undo.1.cls ≠ "java/lang/invoke/VarHandle" ∧ (parseMethodDescriptor Y_T_undo.1.desc).map (fun d => d.parameters.length) = some 0) ∧ (Cond.instanceMethod Y_T_undo.1 ∈ pj_ws) ∧ (Cond.selects Y_T_undo.1.cls Y_T_undo.1 Y_T_undo.1 ∈ pj_ws) := ⟨pj_mem 1279 (by decide +kernel) rfl, pj_mem 130 (by decide +kernel) rfl, ⟨by decide +kernel, by decide +kernel, by decide +kernel⟩, pj_mem 1277 (by decide +kernel) rfl, pj_mem 1278 (by decide +kernel) rfl⟩
theorem cm_M_undo : (Cond.code Y_M_undo.1 Y_M_undo.2.1 Y_M_undo.2.2.1 Y_M_undo.2.2.2 ∈ pj_ws) ∧ (Cond.initialized Y_M_undo.1.cls ∈ pj_ws) ∧ (Y_M_undo.1.cls ≠ "java/lang/invoke/MethodHandle" ∧ Y_M_undo.1.cls ≠ "java/lang/invoke/VarHandle" ∧ (parseMethodDescriptor Y_M_undo.1.desc).map (fun d => d.parameters.length) = some 0) ∧ (Cond.instanceMethod Y_M_undo.1 ∈ pj_ws) ∧ (Cond.selects Y_M_undo.1.cls Y_M_undo.1 Y_M_undo.1 ∈ pj_ws) := ⟨pj_mem 2171 (by decide +kernel) rfl, pj_mem 141 (by decide +kernel) rfl, ⟨by decide +kernel, by decide +kernel, by decide +kernel⟩, pj_mem 2169 (by decide +kernel) rfl, pj_mem 2170 (by decide +kernel) rfl⟩
theorem cm_T_mark : (Cond.code Y_T_mark.1 Y_T_mark.2.1 Y_T_mark.2.2.1 Y_T_mark.2.2.2 ∈ pj_ws) ∧ (Cond.initialized Y_T_mark.1.cls ∈ pj_ws) ∧ (Y_T_mark.1.cls ≠ "java/lang/invoke/MethodHandle" ∧ Y_T_mark.1.cls ≠ "java/lang/invoke/VarHandle" ∧ (parseMethodDescriptor Y_T_mark.1.desc).map (fun d => d.parameters.length) = some 0) ∧ (Cond.instanceMethod Y_T_mark.1 ∈ pj_ws) ∧ (Cond.selects Y_T_mark.1.cls Y_T_mark.1 Y_T_mark.1 ∈ pj_ws) := ⟨pj_mem 1287 (by decide +kernel) rfl, pj_mem 130 (by decide +kernel) rfl, ⟨by decide +kernel, by decide +kernel, by decide +kernel⟩, pj_mem 1285 (by decide +kernel) rfl, pj_mem 1286 (by decide +kernel) rfl⟩
theorem cm_M_mark : (Cond.code Y_M_mark.1 Y_M_mark.2.1 Y_M_mark.2.2.1 Y_M_mark.2.2.2 ∈ pj_ws) ∧ (Cond.initialized Y_M_mark.1.cls ∈ pj_ws) ∧ (Y_M_mark.1.cls ≠ "java/lang/invoke/MethodHandle" ∧ Y_M_mark.1.cls ≠ "java/lang/invoke/VarHandle" ∧ (parseMethodDescriptor Y_M_mark.1.desc).map (fun d => d.parameters.length) = some 0) ∧ (Cond.instanceMethod Y_M_mark.1 ∈ pj_ws) ∧ (Cond.selects Y_M_mark.1.cls Y_M_mark.1 Y_M_mark.1 ∈ pj_ws) := ⟨pj_mem 2175 (by decide +kernel) rfl, pj_mem 141 (by decide +kernel) rfl, ⟨by decide +kernel, by decide +kernel, by decide +kernel⟩, pj_mem 2173 (by decide +kernel) rfl, pj_mem 2174 (by decide +kernel) rfl⟩
theorem cm_T_back : (Cond.code Y_T_back.1 Y_T_back.2.1 Y_T_back.2.2.1 Y_T_back.2.2.2 ∈ pj_ws) ∧ (Cond.initialized Y_T_back.1.cls ∈ pj_ws) ∧ (Y_T_back.1.cls ≠ "java/lang/invoke/MethodHandle" ∧ Y_T_back.1.cls ≠ "java/lang/invoke/VarHandle" ∧ (parseMethodDescriptor Y_T_back.1.desc).map (fun d => d.parameters.length) = some 1) ∧ (Cond.instanceMethod Y_T_back.1 ∈ pj_ws) ∧ (Cond.selects Y_T_back.1.cls Y_T_back.1 Y_T_back.1 ∈ pj_ws) := ⟨pj_mem 1295 (by decide +kernel) rfl, pj_mem 130 (by decide +kernel) rfl, ⟨by decide +kernel, by decide +kernel, by decide +kernel⟩, pj_mem 1293 (by decide +kernel) rfl, pj_mem 1294 (by decide +kernel) rfl⟩
theorem cm_M_back : (Cond.code Y_M_back.1 Y_M_back.2.1 Y_M_back.2.2.1 Y_M_back.2.2.2 ∈ pj_ws) ∧ (Cond.initialized Y_M_back.1.cls ∈ pj_ws) ∧ (Y_M_back.1.cls ≠ "java/lang/invoke/MethodHandle" ∧ Y_M_back.1.cls ≠ "java/lang/invoke/VarHandle" ∧ (parseMethodDescriptor Y_M_back.1.desc).map (fun d => d.parameters.length) = some 1) ∧ (Cond.instanceMethod Y_M_back.1 ∈ pj_ws) ∧ (Cond.selects Y_M_back.1.cls Y_M_back.1 Y_M_back.1 ∈ pj_ws) := ⟨pj_mem 2179 (by decide +kernel) rfl, pj_mem 141 (by decide +kernel) rfl, ⟨by decide +kernel, by decide +kernel, by decide +kernel⟩, pj_mem 2177 (by decide +kernel) rfl, pj_mem 2178 (by decide +kernel) rfl⟩
theorem cm_M_feed : (Cond.code Y_M_feed.1 Y_M_feed.2.1 Y_M_feed.2.2.1 Y_M_feed.2.2.2 ∈ pj_ws) ∧ (Cond.initialized Y_M_feed.1.cls ∈ pj_ws) ∧ (Y_M_feed.1.cls ≠ "java/lang/invoke/MethodHandle" ∧ Y_M_feed.1.cls ≠ "java/lang/invoke/VarHandle" ∧ (parseMethodDescriptor Y_M_feed.1.desc).map (fun d => d.parameters.length) = some 5) ∧ (Cond.instanceMethod Y_M_feed.1 ∈ pj_ws) ∧ (Cond.selects Y_M_feed.1.cls Y_M_feed.1 Y_M_feed.1 ∈ pj_ws) := ⟨pj_mem 1492 (by decide +kernel) rfl, pj_mem 141 (by decide +kernel) rfl, ⟨by decide +kernel, by decide +kernel, by decide +kernel⟩, pj_mem 1490 (by decide +kernel) rfl, pj_mem 1491 (by decide +kernel) rfl⟩
theorem cm_M_led : (Cond.code Y_M_led.1 Y_M_led.2.1 Y_M_led.2.2.1 Y_M_led.2.2.2 ∈ pj_ws) ∧ (Cond.initialized Y_M_led.1.cls ∈ pj_ws) ∧ (Y_M_led.1.cls ≠ "java/lang/invoke/MethodHandle" ∧ Y_M_led.1.cls ≠ "java/lang/invoke/VarHandle" ∧ (parseMethodDescriptor Y_M_led.1.desc).map (fun d => d.parameters.length) = some 1) ∧ (Cond.instanceMethod Y_M_led.1 ∈ pj_ws) ∧ (Cond.selects Y_M_led.1.cls Y_M_led.1 Y_M_led.1 ∈ pj_ws) := ⟨pj_mem 2183 (by decide +kernel) rfl, pj_mem 141 (by decide +kernel) rfl, ⟨by decide +kernel, by decide +kernel, by decide +kernel⟩, pj_mem 2181 (by decide +kernel) rfl, pj_mem 2182 (by decide +kernel) rfl⟩
theorem cm_M_thrown : (Cond.code Y_M_thrown.1 Y_M_thrown.2.1 Y_M_thrown.2.2.1 Y_M_thrown.2.2.2 ∈ pj_ws) ∧ (Cond.initialized Y_M_thrown.1.cls ∈ pj_ws) ∧ (Y_M_thrown.1.cls ≠ "java/lang/invoke/MethodHandle" ∧ Y_M_thrown.1.cls ≠ "java/lang/invoke/VarHandle" ∧ (parseMethodDescriptor Y_M_thrown.1.desc).map (fun d => d.parameters.length) = some 0) ∧ (Cond.instanceMethod Y_M_thrown.1 ∈ pj_ws) ∧ (Cond.selects Y_M_thrown.1.cls Y_M_thrown.1 Y_M_thrown.1 ∈ pj_ws) := ⟨pj_mem 1488 (by decide +kernel) rfl, pj_mem 141 (by decide +kernel) rfl, ⟨by decide +kernel, by decide +kernel, by decide +kernel⟩, pj_mem 1486 (by decide +kernel) rfl, pj_mem 1487 (by decide +kernel) rfl⟩
theorem cm_T_size : (Cond.code Y_T_size.1 Y_T_size.2.1 Y_T_size.2.2.1 Y_T_size.2.2.2 ∈ pj_ws) ∧ (Cond.initialized Y_T_size.1.cls ∈ pj_ws) ∧ (Y_T_size.1.cls ≠ "java/lang/invoke/MethodHandle" ∧ Y_T_size.1.cls ≠ "java/lang/invoke/VarHandle" ∧ (parseMethodDescriptor Y_T_size.1.desc).map (fun d => d.parameters.length) = some 1) ∧ (Cond.instanceMethod Y_T_size.1 ∈ pj_ws) ∧ (Cond.selects Y_T_size.1.cls Y_T_size.1 Y_T_size.1 ∈ pj_ws) := ⟨pj_mem 1303 (by decide +kernel) rfl, pj_mem 130 (by decide +kernel) rfl, ⟨by decide +kernel, by decide +kernel, by decide +kernel⟩, pj_mem 1301 (by decide +kernel) rfl, pj_mem 1302 (by decide +kernel) rfl⟩
theorem cm_T_laws : (Cond.code Y_T_laws.1 Y_T_laws.2.1 Y_T_laws.2.2.1 Y_T_laws.2.2.2 ∈ pj_ws) ∧ (Cond.initialized Y_T_laws.1.cls ∈ pj_ws) ∧ (Y_T_laws.1.cls ≠ "java/lang/invoke/MethodHandle" ∧ Y_T_laws.1.cls ≠ "java/lang/invoke/VarHandle" ∧ (parseMethodDescriptor Y_T_laws.1.desc).map (fun d => d.parameters.length) = some 1) ∧ (Cond.instanceMethod Y_T_laws.1 ∈ pj_ws) ∧ (Cond.selects Y_T_laws.1.cls Y_T_laws.1 Y_T_laws.1 ∈ pj_ws) := ⟨pj_mem 607 (by decide +kernel) rfl, pj_mem 130 (by decide +kernel) rfl, ⟨by decide +kernel, by decide +kernel, by decide +kernel⟩, pj_mem 605 (by decide +kernel) rfl, pj_mem 606 (by decide +kernel) rfl⟩
theorem cm_M_size : (Cond.code Y_M_size.1 Y_M_size.2.1 Y_M_size.2.2.1 Y_M_size.2.2.2 ∈ pj_ws) ∧ (Cond.initialized Y_M_size.1.cls ∈ pj_ws) ∧ (Y_M_size.1.cls ≠ "java/lang/invoke/MethodHandle" ∧ Y_M_size.1.cls ≠ "java/lang/invoke/VarHandle" ∧ (parseMethodDescriptor Y_M_size.1.desc).map (fun d => d.parameters.length) = some 1) ∧ (Cond.instanceMethod Y_M_size.1 ∈ pj_ws) ∧ (Cond.selects Y_M_size.1.cls Y_M_size.1 Y_M_size.1 ∈ pj_ws) := ⟨pj_mem 2187 (by decide +kernel) rfl, pj_mem 141 (by decide +kernel) rfl, ⟨by decide +kernel, by decide +kernel, by decide +kernel⟩, pj_mem 2185 (by decide +kernel) rfl, pj_mem 2186 (by decide +kernel) rfl⟩
theorem cm_T_trouble : (Cond.code Y_T_trouble.1 Y_T_trouble.2.1 Y_T_trouble.2.2.1 Y_T_trouble.2.2.2 ∈ pj_ws) ∧ (Cond.initialized Y_T_trouble.1.cls ∈ pj_ws) ∧ (Y_T_trouble.1.cls ≠ "java/lang/invoke/MethodHandle" ∧ Y_T_trouble.1.cls ≠ "java/lang/invoke/VarHandle" ∧ (parseMethodDescriptor Y_T_trouble.1.desc).map (fun d => d.parameters.length) = some 0) ∧ (Cond.instanceMethod Y_T_trouble.1 ∈ pj_ws) ∧ (Cond.selects Y_T_trouble.1.cls Y_T_trouble.1 Y_T_trouble.1 ∈ pj_ws) := ⟨pj_mem 1307 (by decide +kernel) rfl, pj_mem 130 (by decide +kernel) rfl, ⟨by decide +kernel, by decide +kernel, by decide +kernel⟩, pj_mem 1305 (by decide +kernel) rfl, pj_mem 1306 (by decide +kernel) rfl⟩
theorem cm_M_trouble : (Cond.code Y_M_trouble.1 Y_M_trouble.2.1 Y_M_trouble.2.2.1 Y_M_trouble.2.2.2 ∈ pj_ws) ∧ (Cond.initialized Y_M_trouble.1.cls ∈ pj_ws) ∧ (Y_M_trouble.1.cls ≠ "java/lang/invoke/MethodHandle" ∧ Y_M_trouble.1.cls ≠ "java/lang/invoke/VarHandle" ∧ (parseMethodDescriptor Y_M_trouble.1.desc).map (fun d => d.parameters.length) = some 0) ∧ (Cond.instanceMethod Y_M_trouble.1 ∈ pj_ws) ∧ (Cond.selects Y_M_trouble.1.cls Y_M_trouble.1 Y_M_trouble.1 ∈ pj_ws) := ⟨pj_mem 2191 (by decide +kernel) rfl, pj_mem 141 (by decide +kernel) rfl, ⟨by decide +kernel, by decide +kernel, by decide +kernel⟩, pj_mem 2189 (by decide +kernel) rfl, pj_mem 2190 (by decide +kernel) rfl⟩
theorem cm_M_laws : (Cond.code Y_M_laws.1 Y_M_laws.2.1 Y_M_laws.2.2.1 Y_M_laws.2.2.2 ∈ pj_ws) ∧ (Cond.initialized Y_M_laws.1.cls ∈ pj_ws) ∧ (Y_M_laws.1.cls ≠ "java/lang/invoke/MethodHandle" ∧ Y_M_laws.1.cls ≠ "java/lang/invoke/VarHandle" ∧ (parseMethodDescriptor Y_M_laws.1.desc).map (fun d => d.parameters.length) = some 1) ∧ (Cond.instanceMethod Y_M_laws.1 ∈ pj_ws) ∧ (Cond.selects Y_M_laws.1.cls Y_M_laws.1 Y_M_laws.1 ∈ pj_ws) := ⟨pj_mem 1496 (by decide +kernel) rfl, pj_mem 141 (by decide +kernel) rfl, ⟨by decide +kernel, by decide +kernel, by decide +kernel⟩, pj_mem 1494 (by decide +kernel) rfl, pj_mem 1495 (by decide +kernel) rfl⟩
theorem cm_T_fault : (Cond.code Y_T_fault.1 Y_T_fault.2.1 Y_T_fault.2.2.1 Y_T_fault.2.2.2 ∈ pj_ws) ∧ (Cond.initialized Y_T_fault.1.cls ∈ pj_ws) ∧ (Y_T_fault.1.cls ≠ "java/lang/invoke/MethodHandle" ∧ Y_T_fault.1.cls ≠ "java/lang/invoke/VarHandle" ∧ (parseMethodDescriptor Y_T_fault.1.desc).map (fun d => d.parameters.length) = some 0) ∧ (Cond.instanceMethod Y_T_fault.1 ∈ pj_ws) ∧ (Cond.selects Y_T_fault.1.cls Y_T_fault.1 Y_T_fault.1 ∈ pj_ws) := ⟨pj_mem 821 (by decide +kernel) rfl, pj_mem 130 (by decide +kernel) rfl, ⟨by decide +kernel, by decide +kernel, by decide +kernel⟩, pj_mem 819 (by decide +kernel) rfl, pj_mem 820 (by decide +kernel) rfl⟩
theorem cm_M_fault : (Cond.code Y_M_fault.1 Y_M_fault.2.1 Y_M_fault.2.2.1 Y_M_fault.2.2.2 ∈ pj_ws) ∧ (Cond.initialized Y_M_fault.1.cls ∈ pj_ws) ∧ (Y_M_fault.1.cls ≠ "java/lang/invoke/MethodHandle" ∧ Y_M_fault.1.cls ≠ "java/lang/invoke/VarHandle" ∧ (parseMethodDescriptor Y_M_fault.1.desc).map (fun d => d.parameters.length) = some 0) ∧ (Cond.instanceMethod Y_M_fault.1 ∈ pj_ws) ∧ (Cond.selects Y_M_fault.1.cls Y_M_fault.1 Y_M_fault.1 ∈ pj_ws) := ⟨pj_mem 1769 (by decide +kernel) rfl, pj_mem 141 (by decide +kernel) rfl, ⟨by decide +kernel, by decide +kernel, by decide +kernel⟩, pj_mem 1767 (by decide +kernel) rfl, pj_mem 1768 (by decide +kernel) rfl⟩
theorem cm_T_where : (Cond.code Y_T_where.1 Y_T_where.2.1 Y_T_where.2.2.1 Y_T_where.2.2.2 ∈ pj_ws) ∧ (Cond.initialized Y_T_where.1.cls ∈ pj_ws) ∧ (Y_T_where.1.cls ≠ "java/lang/invoke/MethodHandle" ∧ Y_T_where.1.cls ≠ "java/lang/invoke/VarHandle" ∧ (parseMethodDescriptor Y_T_where.1.desc).map (fun d => d.parameters.length) = some 0) ∧ (Cond.instanceMethod Y_T_where.1 ∈ pj_ws) ∧ (Cond.selects Y_T_where.1.cls Y_T_where.1 Y_T_where.1 ∈ pj_ws) := ⟨pj_mem 825 (by decide +kernel) rfl, pj_mem 130 (by decide +kernel) rfl, ⟨by decide +kernel, by decide +kernel, by decide +kernel⟩, pj_mem 823 (by decide +kernel) rfl, pj_mem 824 (by decide +kernel) rfl⟩
theorem cm_M_where : (Cond.code Y_M_where.1 Y_M_where.2.1 Y_M_where.2.2.1 Y_M_where.2.2.2 ∈ pj_ws) ∧ (Cond.initialized Y_M_where.1.cls ∈ pj_ws) ∧ (Y_M_where.1.cls ≠ "java/lang/invoke/MethodHandle" ∧ Y_M_where.1.cls ≠ "java/lang/invoke/VarHandle" ∧ (parseMethodDescriptor Y_M_where.1.desc).map (fun d => d.parameters.length) = some 0) ∧ (Cond.instanceMethod Y_M_where.1 ∈ pj_ws) ∧ (Cond.selects Y_M_where.1.cls Y_M_where.1 Y_M_where.1 ∈ pj_ws) := ⟨pj_mem 1773 (by decide +kernel) rfl, pj_mem 141 (by decide +kernel) rfl, ⟨by decide +kernel, by decide +kernel, by decide +kernel⟩, pj_mem 1771 (by decide +kernel) rfl, pj_mem 1772 (by decide +kernel) rfl⟩
theorem cm_T_person : (Cond.code Y_T_person.1 Y_T_person.2.1 Y_T_person.2.2.1 Y_T_person.2.2.2 ∈ pj_ws) ∧ (Cond.initialized Y_T_person.1.cls ∈ pj_ws) ∧ (Y_T_person.1.cls ≠ "java/lang/invoke/MethodHandle" ∧ Y_T_person.1.cls ≠ "java/lang/invoke/VarHandle" ∧ (parseMethodDescriptor Y_T_person.1.desc).map (fun d => d.parameters.length) = some 2) ∧ (Cond.instanceMethod Y_T_person.1 ∈ pj_ws) ∧ (Cond.selects Y_T_person.1.cls Y_T_person.1 Y_T_person.1 ∈ pj_ws) := ⟨pj_mem 829 (by decide +kernel) rfl, pj_mem 130 (by decide +kernel) rfl, ⟨by decide +kernel, by decide +kernel, by decide +kernel⟩, pj_mem 827 (by decide +kernel) rfl, pj_mem 828 (by decide +kernel) rfl⟩
theorem cm_M_person : (Cond.code Y_M_person.1 Y_M_person.2.1 Y_M_person.2.2.1 Y_M_person.2.2.2 ∈ pj_ws) ∧ (Cond.initialized Y_M_person.1.cls ∈ pj_ws) ∧ (Y_M_person.1.cls ≠ "java/lang/invoke/MethodHandle" ∧ Y_M_person.1.cls ≠ "java/lang/invoke/VarHandle" ∧ (parseMethodDescriptor Y_M_person.1.desc).map (fun d => d.parameters.length) = some 2) ∧ (Cond.instanceMethod Y_M_person.1 ∈ pj_ws) ∧ (Cond.selects Y_M_person.1.cls Y_M_person.1 Y_M_person.1 ∈ pj_ws) := ⟨pj_mem 1777 (by decide +kernel) rfl, pj_mem 141 (by decide +kernel) rfl, ⟨by decide +kernel, by decide +kernel, by decide +kernel⟩, pj_mem 1775 (by decide +kernel) rfl, pj_mem 1776 (by decide +kernel) rfl⟩
theorem cm_T_far : (Cond.code Y_T_far.1 Y_T_far.2.1 Y_T_far.2.2.1 Y_T_far.2.2.2 ∈ pj_ws) ∧ (Cond.initialized Y_T_far.1.cls ∈ pj_ws) ∧ (Y_T_far.1.cls ≠ "java/lang/invoke/MethodHandle" ∧ Y_T_far.1.cls ≠ "java/lang/invoke/VarHandle" ∧ (parseMethodDescriptor Y_T_far.1.desc).map (fun d => d.parameters.length) = some 2) ∧ (Cond.instanceMethod Y_T_far.1 ∈ pj_ws) ∧ (Cond.selects Y_T_far.1.cls Y_T_far.1 Y_T_far.1 ∈ pj_ws) := ⟨pj_mem 837 (by decide +kernel) rfl, pj_mem 130 (by decide +kernel) rfl, ⟨by decide +kernel, by decide +kernel, by decide +kernel⟩, pj_mem 835 (by decide +kernel) rfl, pj_mem 836 (by decide +kernel) rfl⟩
theorem cm_M_far : (Cond.code Y_M_far.1 Y_M_far.2.1 Y_M_far.2.2.1 Y_M_far.2.2.2 ∈ pj_ws) ∧ (Cond.initialized Y_M_far.1.cls ∈ pj_ws) ∧ (Y_M_far.1.cls ≠ "java/lang/invoke/MethodHandle" ∧ Y_M_far.1.cls ≠ "java/lang/invoke/VarHandle" ∧ (parseMethodDescriptor Y_M_far.1.desc).map (fun d => d.parameters.length) = some 2) ∧ (Cond.instanceMethod Y_M_far.1 ∈ pj_ws) ∧ (Cond.selects Y_M_far.1.cls Y_M_far.1 Y_M_far.1 ∈ pj_ws) := ⟨pj_mem 1785 (by decide +kernel) rfl, pj_mem 141 (by decide +kernel) rfl, ⟨by decide +kernel, by decide +kernel, by decide +kernel⟩, pj_mem 1783 (by decide +kernel) rfl, pj_mem 1784 (by decide +kernel) rfl⟩
theorem cm_T_worth : (Cond.code Y_T_worth.1 Y_T_worth.2.1 Y_T_worth.2.2.1 Y_T_worth.2.2.2 ∈ pj_ws) ∧ (Cond.initialized Y_T_worth.1.cls ∈ pj_ws) ∧ (Y_T_worth.1.cls ≠ "java/lang/invoke/MethodHandle" ∧ Y_T_worth.1.cls ≠ "java/lang/invoke/VarHandle" ∧ (parseMethodDescriptor Y_T_worth.1.desc).map (fun d => d.parameters.length) = some 2) ∧ (Cond.instanceMethod Y_T_worth.1 ∈ pj_ws) ∧ (Cond.selects Y_T_worth.1.cls Y_T_worth.1 Y_T_worth.1 ∈ pj_ws) := ⟨pj_mem 849 (by decide +kernel) rfl, pj_mem 130 (by decide +kernel) rfl, ⟨by decide +kernel, by decide +kernel, by decide +kernel⟩, pj_mem 847 (by decide +kernel) rfl, pj_mem 848 (by decide +kernel) rfl⟩
theorem cm_M_worth : (Cond.code Y_M_worth.1 Y_M_worth.2.1 Y_M_worth.2.2.1 Y_M_worth.2.2.2 ∈ pj_ws) ∧ (Cond.initialized Y_M_worth.1.cls ∈ pj_ws) ∧ (Y_M_worth.1.cls ≠ "java/lang/invoke/MethodHandle" ∧ Y_M_worth.1.cls ≠ "java/lang/invoke/VarHandle" ∧ (parseMethodDescriptor Y_M_worth.1.desc).map (fun d => d.parameters.length) = some 2) ∧ (Cond.instanceMethod Y_M_worth.1 ∈ pj_ws) ∧ (Cond.selects Y_M_worth.1.cls Y_M_worth.1 Y_M_worth.1 ∈ pj_ws) := ⟨pj_mem 1797 (by decide +kernel) rfl, pj_mem 141 (by decide +kernel) rfl, ⟨by decide +kernel, by decide +kernel, by decide +kernel⟩, pj_mem 1795 (by decide +kernel) rfl, pj_mem 1796 (by decide +kernel) rfl⟩
theorem cm_T_tax : (Cond.code Y_T_tax.1 Y_T_tax.2.1 Y_T_tax.2.2.1 Y_T_tax.2.2.2 ∈ pj_ws) ∧ (Cond.initialized Y_T_tax.1.cls ∈ pj_ws) ∧ (Y_T_tax.1.cls ≠ "java/lang/invoke/MethodHandle" ∧ Y_T_tax.1.cls ≠ "java/lang/invoke/VarHandle" ∧ (parseMethodDescriptor Y_T_tax.1.desc).map (fun d => d.parameters.length) = some 2) ∧ (Cond.instanceMethod Y_T_tax.1 ∈ pj_ws) ∧ (Cond.selects Y_T_tax.1.cls Y_T_tax.1 Y_T_tax.1 ∈ pj_ws) := ⟨pj_mem 869 (by decide +kernel) rfl, pj_mem 130 (by decide +kernel) rfl, ⟨by decide +kernel, by decide +kernel, by decide +kernel⟩, pj_mem 867 (by decide +kernel) rfl, pj_mem 868 (by decide +kernel) rfl⟩
theorem cm_M_tax : (Cond.code Y_M_tax.1 Y_M_tax.2.1 Y_M_tax.2.2.1 Y_M_tax.2.2.2 ∈ pj_ws) ∧ (Cond.initialized Y_M_tax.1.cls ∈ pj_ws) ∧ (Y_M_tax.1.cls ≠ "java/lang/invoke/MethodHandle" ∧ Y_M_tax.1.cls ≠ "java/lang/invoke/VarHandle" ∧ (parseMethodDescriptor Y_M_tax.1.desc).map (fun d => d.parameters.length) = some 2) ∧ (Cond.instanceMethod Y_M_tax.1 ∈ pj_ws) ∧ (Cond.selects Y_M_tax.1.cls Y_M_tax.1 Y_M_tax.1 ∈ pj_ws) := ⟨pj_mem 1809 (by decide +kernel) rfl, pj_mem 141 (by decide +kernel) rfl, ⟨by decide +kernel, by decide +kernel, by decide +kernel⟩, pj_mem 1807 (by decide +kernel) rfl, pj_mem 1808 (by decide +kernel) rfl⟩
theorem cm_T_chooses : (Cond.code Y_T_chooses.1 Y_T_chooses.2.1 Y_T_chooses.2.2.1 Y_T_chooses.2.2.2 ∈ pj_ws) ∧ (Cond.initialized Y_T_chooses.1.cls ∈ pj_ws) ∧ (Y_T_chooses.1.cls ≠ "java/lang/invoke/MethodHandle" ∧ Y_T_chooses.1.cls ≠ "java/lang/invoke/VarHandle" ∧ (parseMethodDescriptor Y_T_chooses.1.desc).map (fun d => d.parameters.length) = some 1) ∧ (Cond.instanceMethod Y_T_chooses.1 ∈ pj_ws) ∧ (Cond.selects Y_T_chooses.1.cls Y_T_chooses.1 Y_T_chooses.1 ∈ pj_ws) := ⟨pj_mem 878 (by decide +kernel) rfl, pj_mem 130 (by decide +kernel) rfl, ⟨by decide +kernel, by decide +kernel, by decide +kernel⟩, pj_mem 876 (by decide +kernel) rfl, pj_mem 877 (by decide +kernel) rfl⟩
theorem cm_M_chooses : (Cond.code Y_M_chooses.1 Y_M_chooses.2.1 Y_M_chooses.2.2.1 Y_M_chooses.2.2.2 ∈ pj_ws) ∧ (Cond.initialized Y_M_chooses.1.cls ∈ pj_ws) ∧ (Y_M_chooses.1.cls ≠ "java/lang/invoke/MethodHandle" ∧ Y_M_chooses.1.cls ≠ "java/lang/invoke/VarHandle" ∧ (parseMethodDescriptor Y_M_chooses.1.desc).map (fun d => d.parameters.length) = some 1) ∧ (Cond.instanceMethod Y_M_chooses.1 ∈ pj_ws) ∧ (Cond.selects Y_M_chooses.1.cls Y_M_chooses.1 Y_M_chooses.1 ∈ pj_ws) := ⟨pj_mem 1825 (by decide +kernel) rfl, pj_mem 141 (by decide +kernel) rfl, ⟨by decide +kernel, by decide +kernel, by decide +kernel⟩, pj_mem 1823 (by decide +kernel) rfl, pj_mem 1824 (by decide +kernel) rfl⟩
theorem cm_T_waverers : (Cond.code Y_T_waverers.1 Y_T_waverers.2.1 Y_T_waverers.2.2.1 Y_T_waverers.2.2.2 ∈ pj_ws) ∧ (Cond.initialized Y_T_waverers.1.cls ∈ pj_ws) ∧ (Y_T_waverers.1.cls ≠ "java/lang/invoke/MethodHandle" ∧ Y_T_waverers.1.cls ≠ "java/lang/invoke/VarHandle" ∧ (parseMethodDescriptor Y_T_waverers.1.desc).map (fun d => d.parameters.length) = some 0) ∧ (Cond.instanceMethod Y_T_waverers.1 ∈ pj_ws) ∧ (Cond.selects Y_T_waverers.1.cls Y_T_waverers.1 Y_T_waverers.1 ∈ pj_ws) := ⟨pj_mem 892 (by decide +kernel) rfl, pj_mem 130 (by decide +kernel) rfl, ⟨by decide +kernel, by decide +kernel, by decide +kernel⟩, pj_mem 890 (by decide +kernel) rfl, pj_mem 891 (by decide +kernel) rfl⟩
theorem cm_M_waverers : (Cond.code Y_M_waverers.1 Y_M_waverers.2.1 Y_M_waverers.2.2.1 Y_M_waverers.2.2.2 ∈ pj_ws) ∧ (Cond.initialized Y_M_waverers.1.cls ∈ pj_ws) ∧ (Y_M_waverers.1.cls ≠ "java/lang/invoke/MethodHandle" ∧ Y_M_waverers.1.cls ≠ "java/lang/invoke/VarHandle" ∧ (parseMethodDescriptor Y_M_waverers.1.desc).map (fun d => d.parameters.length) = some 0) ∧ (Cond.instanceMethod Y_M_waverers.1 ∈ pj_ws) ∧ (Cond.selects Y_M_waverers.1.cls Y_M_waverers.1 Y_M_waverers.1 ∈ pj_ws) := ⟨pj_mem 1833 (by decide +kernel) rfl, pj_mem 141 (by decide +kernel) rfl, ⟨by decide +kernel, by decide +kernel, by decide +kernel⟩, pj_mem 1831 (by decide +kernel) rfl, pj_mem 1832 (by decide +kernel) rfl⟩
theorem cm_T_holders : (Cond.code Y_T_holders.1 Y_T_holders.2.1 Y_T_holders.2.2.1 Y_T_holders.2.2.2 ∈ pj_ws) ∧ (Cond.initialized Y_T_holders.1.cls ∈ pj_ws) ∧ (Y_T_holders.1.cls ≠ "java/lang/invoke/MethodHandle" ∧ Y_T_holders.1.cls ≠ "java/lang/invoke/VarHandle" ∧ (parseMethodDescriptor Y_T_holders.1.desc).map (fun d => d.parameters.length) = some 1) ∧ (Cond.instanceMethod Y_T_holders.1 ∈ pj_ws) ∧ (Cond.selects Y_T_holders.1.cls Y_T_holders.1 Y_T_holders.1 ∈ pj_ws) := ⟨pj_mem 901 (by decide +kernel) rfl, pj_mem 130 (by decide +kernel) rfl, ⟨by decide +kernel, by decide +kernel, by decide +kernel⟩, pj_mem 899 (by decide +kernel) rfl, pj_mem 900 (by decide +kernel) rfl⟩
theorem cm_M_holders : (Cond.code Y_M_holders.1 Y_M_holders.2.1 Y_M_holders.2.2.1 Y_M_holders.2.2.2 ∈ pj_ws) ∧ (Cond.initialized Y_M_holders.1.cls ∈ pj_ws) ∧ (Y_M_holders.1.cls ≠ "java/lang/invoke/MethodHandle" ∧ Y_M_holders.1.cls ≠ "java/lang/invoke/VarHandle" ∧ (parseMethodDescriptor Y_M_holders.1.desc).map (fun d => d.parameters.length) = some 1) ∧ (Cond.instanceMethod Y_M_holders.1 ∈ pj_ws) ∧ (Cond.selects Y_M_holders.1.cls Y_M_holders.1 Y_M_holders.1 ∈ pj_ws) := ⟨pj_mem 1841 (by decide +kernel) rfl, pj_mem 141 (by decide +kernel) rfl, ⟨by decide +kernel, by decide +kernel, by decide +kernel⟩, pj_mem 1839 (by decide +kernel) rfl, pj_mem 1840 (by decide +kernel) rfl⟩
theorem cm_T_fashion : (Cond.code Y_T_fashion.1 Y_T_fashion.2.1 Y_T_fashion.2.2.1 Y_T_fashion.2.2.2 ∈ pj_ws) ∧ (Cond.initialized Y_T_fashion.1.cls ∈ pj_ws) ∧ (Y_T_fashion.1.cls ≠ "java/lang/invoke/MethodHandle" ∧ Y_T_fashion.1.cls ≠ "java/lang/invoke/VarHandle" ∧ (parseMethodDescriptor Y_T_fashion.1.desc).map (fun d => d.parameters.length) = some 0) ∧ (Cond.instanceMethod Y_T_fashion.1 ∈ pj_ws) ∧ (Cond.selects Y_T_fashion.1.cls Y_T_fashion.1 Y_T_fashion.1 ∈ pj_ws) := ⟨pj_mem 909 (by decide +kernel) rfl, pj_mem 130 (by decide +kernel) rfl, ⟨by decide +kernel, by decide +kernel, by decide +kernel⟩, pj_mem 907 (by decide +kernel) rfl, pj_mem 908 (by decide +kernel) rfl⟩
theorem cm_M_fashion : (Cond.code Y_M_fashion.1 Y_M_fashion.2.1 Y_M_fashion.2.2.1 Y_M_fashion.2.2.2 ∈ pj_ws) ∧ (Cond.initialized Y_M_fashion.1.cls ∈ pj_ws) ∧ (Y_M_fashion.1.cls ≠ "java/lang/invoke/MethodHandle" ∧ Y_M_fashion.1.cls ≠ "java/lang/invoke/VarHandle" ∧ (parseMethodDescriptor Y_M_fashion.1.desc).map (fun d => d.parameters.length) = some 0) ∧ (Cond.instanceMethod Y_M_fashion.1 ∈ pj_ws) ∧ (Cond.selects Y_M_fashion.1.cls Y_M_fashion.1 Y_M_fashion.1 ∈ pj_ws) := ⟨pj_mem 1849 (by decide +kernel) rfl, pj_mem 141 (by decide +kernel) rfl, ⟨by decide +kernel, by decide +kernel, by decide +kernel⟩, pj_mem 1847 (by decide +kernel) rfl, pj_mem 1848 (by decide +kernel) rfl⟩
theorem cm_T_came : (Cond.code Y_T_came.1 Y_T_came.2.1 Y_T_came.2.2.1 Y_T_came.2.2.2 ∈ pj_ws) ∧ (Cond.initialized Y_T_came.1.cls ∈ pj_ws) ∧ (Y_T_came.1.cls ≠ "java/lang/invoke/MethodHandle" ∧ Y_T_came.1.cls ≠ "java/lang/invoke/VarHandle" ∧ (parseMethodDescriptor Y_T_came.1.desc).map (fun d => d.parameters.length) = some 1) ∧ (Cond.instanceMethod Y_T_came.1 ∈ pj_ws) ∧ (Cond.selects Y_T_came.1.cls Y_T_came.1 Y_T_came.1 ∈ pj_ws) := ⟨pj_mem 919 (by decide +kernel) rfl, pj_mem 130 (by decide +kernel) rfl, ⟨by decide +kernel, by decide +kernel, by decide +kernel⟩, pj_mem 917 (by decide +kernel) rfl, pj_mem 918 (by decide +kernel) rfl⟩
theorem cm_M_came : (Cond.code Y_M_came.1 Y_M_came.2.1 Y_M_came.2.2.1 Y_M_came.2.2.2 ∈ pj_ws) ∧ (Cond.initialized Y_M_came.1.cls ∈ pj_ws) ∧ (Y_M_came.1.cls ≠ "java/lang/invoke/MethodHandle" ∧ Y_M_came.1.cls ≠ "java/lang/invoke/VarHandle" ∧ (parseMethodDescriptor Y_M_came.1.desc).map (fun d => d.parameters.length) = some 1) ∧ (Cond.instanceMethod Y_M_came.1 ∈ pj_ws) ∧ (Cond.selects Y_M_came.1.cls Y_M_came.1 Y_M_came.1 ∈ pj_ws) := ⟨pj_mem 1856 (by decide +kernel) rfl, pj_mem 141 (by decide +kernel) rfl, ⟨by decide +kernel, by decide +kernel, by decide +kernel⟩, pj_mem 1854 (by decide +kernel) rfl, pj_mem 1855 (by decide +kernel) rfl⟩
theorem cm_T_paid : (Cond.code Y_T_paid.1 Y_T_paid.2.1 Y_T_paid.2.2.1 Y_T_paid.2.2.2 ∈ pj_ws) ∧ (Cond.initialized Y_T_paid.1.cls ∈ pj_ws) ∧ (Y_T_paid.1.cls ≠ "java/lang/invoke/MethodHandle" ∧ Y_T_paid.1.cls ≠ "java/lang/invoke/VarHandle" ∧ (parseMethodDescriptor Y_T_paid.1.desc).map (fun d => d.parameters.length) = some 0) ∧ (Cond.instanceMethod Y_T_paid.1 ∈ pj_ws) ∧ (Cond.selects Y_T_paid.1.cls Y_T_paid.1 Y_T_paid.1 ∈ pj_ws) := ⟨pj_mem 924 (by decide +kernel) rfl, pj_mem 130 (by decide +kernel) rfl, ⟨by decide +kernel, by decide +kernel, by decide +kernel⟩, pj_mem 922 (by decide +kernel) rfl, pj_mem 923 (by decide +kernel) rfl⟩
theorem cm_M_paid : (Cond.code Y_M_paid.1 Y_M_paid.2.1 Y_M_paid.2.2.1 Y_M_paid.2.2.2 ∈ pj_ws) ∧ (Cond.initialized Y_M_paid.1.cls ∈ pj_ws) ∧ (Y_M_paid.1.cls ≠ "java/lang/invoke/MethodHandle" ∧ Y_M_paid.1.cls ≠ "java/lang/invoke/VarHandle" ∧ (parseMethodDescriptor Y_M_paid.1.desc).map (fun d => d.parameters.length) = some 0) ∧ (Cond.instanceMethod Y_M_paid.1 ∈ pj_ws) ∧ (Cond.selects Y_M_paid.1.cls Y_M_paid.1 Y_M_paid.1 ∈ pj_ws) := ⟨pj_mem 1860 (by decide +kernel) rfl, pj_mem 141 (by decide +kernel) rfl, ⟨by decide +kernel, by decide +kernel, by decide +kernel⟩, pj_mem 1858 (by decide +kernel) rfl, pj_mem 1859 (by decide +kernel) rfl⟩
theorem cm_T_farthest : (Cond.code Y_T_farthest.1 Y_T_farthest.2.1 Y_T_farthest.2.2.1 Y_T_farthest.2.2.2 ∈ pj_ws) ∧ (Cond.initialized Y_T_farthest.1.cls ∈ pj_ws) ∧ (Y_T_farthest.1.cls ≠ "java/lang/invoke/MethodHandle" ∧ Y_T_farthest.1.cls ≠ "java/lang/invoke/VarHandle" ∧ (parseMethodDescriptor Y_T_farthest.1.desc).map (fun d => d.parameters.length) = some 0) ∧ (Cond.instanceMethod Y_T_farthest.1 ∈ pj_ws) ∧ (Cond.selects Y_T_farthest.1.cls Y_T_farthest.1 Y_T_farthest.1 ∈ pj_ws) := ⟨pj_mem 932 (by decide +kernel) rfl, pj_mem 130 (by decide +kernel) rfl, ⟨by decide +kernel, by decide +kernel, by decide +kernel⟩, pj_mem 930 (by decide +kernel) rfl, pj_mem 931 (by decide +kernel) rfl⟩
theorem cm_M_farthest : (Cond.code Y_M_farthest.1 Y_M_farthest.2.1 Y_M_farthest.2.2.1 Y_M_farthest.2.2.2 ∈ pj_ws) ∧ (Cond.initialized Y_M_farthest.1.cls ∈ pj_ws) ∧ (Y_M_farthest.1.cls ≠ "java/lang/invoke/MethodHandle" ∧ Y_M_farthest.1.cls ≠ "java/lang/invoke/VarHandle" ∧ (parseMethodDescriptor Y_M_farthest.1.desc).map (fun d => d.parameters.length) = some 0) ∧ (Cond.instanceMethod Y_M_farthest.1 ∈ pj_ws) ∧ (Cond.selects Y_M_farthest.1.cls Y_M_farthest.1 Y_M_farthest.1 ∈ pj_ws) := ⟨pj_mem 1864 (by decide +kernel) rfl, pj_mem 141 (by decide +kernel) rfl, ⟨by decide +kernel, by decide +kernel, by decide +kernel⟩, pj_mem 1862 (by decide +kernel) rfl, pj_mem 1863 (by decide +kernel) rfl⟩
theorem cm_T_plan : (Cond.code Y_T_plan.1 Y_T_plan.2.1 Y_T_plan.2.2.1 Y_T_plan.2.2.2 ∈ pj_ws) ∧ (Cond.initialized Y_T_plan.1.cls ∈ pj_ws) ∧ (Y_T_plan.1.cls ≠ "java/lang/invoke/MethodHandle" ∧ Y_T_plan.1.cls ≠ "java/lang/invoke/VarHandle" ∧ (parseMethodDescriptor Y_T_plan.1.desc).map (fun d => d.parameters.length) = some 3) ∧ (Cond.instanceMethod Y_T_plan.1 ∈ pj_ws) ∧ (Cond.selects Y_T_plan.1.cls Y_T_plan.1 Y_T_plan.1 ∈ pj_ws) := ⟨pj_mem 941 (by decide +kernel) rfl, pj_mem 130 (by decide +kernel) rfl, ⟨by decide +kernel, by decide +kernel, by decide +kernel⟩, pj_mem 939 (by decide +kernel) rfl, pj_mem 940 (by decide +kernel) rfl⟩
theorem cm_M_plan : (Cond.code Y_M_plan.1 Y_M_plan.2.1 Y_M_plan.2.2.1 Y_M_plan.2.2.2 ∈ pj_ws) ∧ (Cond.initialized Y_M_plan.1.cls ∈ pj_ws) ∧ (Y_M_plan.1.cls ≠ "java/lang/invoke/MethodHandle" ∧ Y_M_plan.1.cls ≠ "java/lang/invoke/VarHandle" ∧ (parseMethodDescriptor Y_M_plan.1.desc).map (fun d => d.parameters.length) = some 3) ∧ (Cond.instanceMethod Y_M_plan.1 ∈ pj_ws) ∧ (Cond.selects Y_M_plan.1.cls Y_M_plan.1 Y_M_plan.1 ∈ pj_ws) := ⟨pj_mem 1868 (by decide +kernel) rfl, pj_mem 141 (by decide +kernel) rfl, ⟨by decide +kernel, by decide +kernel, by decide +kernel⟩, pj_mem 1866 (by decide +kernel) rfl, pj_mem 1867 (by decide +kernel) rfl⟩
theorem cm_T_planFirst : (Cond.code Y_T_planFirst.1 Y_T_planFirst.2.1 Y_T_planFirst.2.2.1 Y_T_planFirst.2.2.2 ∈ pj_ws) ∧ (Cond.initialized Y_T_planFirst.1.cls ∈ pj_ws) ∧ (Y_T_planFirst.1.cls ≠ "java/lang/invoke/MethodHandle" ∧ Y_T_planFirst.1.cls ≠ "java/lang/invoke/VarHandle" ∧ (parseMethodDescriptor Y_T_planFirst.1.desc).map (fun d => d.parameters.length) = some 2) ∧ (Cond.instanceMethod Y_T_planFirst.1 ∈ pj_ws) ∧ (Cond.selects Y_T_planFirst.1.cls Y_T_planFirst.1 Y_T_planFirst.1 ∈ pj_ws) := ⟨pj_mem 1008 (by decide +kernel) rfl, pj_mem 130 (by decide +kernel) rfl, ⟨by decide +kernel, by decide +kernel, by decide +kernel⟩, pj_mem 1006 (by decide +kernel) rfl, pj_mem 1007 (by decide +kernel) rfl⟩
theorem cm_M_planFirst : (Cond.code Y_M_planFirst.1 Y_M_planFirst.2.1 Y_M_planFirst.2.2.1 Y_M_planFirst.2.2.2 ∈ pj_ws) ∧ (Cond.initialized Y_M_planFirst.1.cls ∈ pj_ws) ∧ (Y_M_planFirst.1.cls ≠ "java/lang/invoke/MethodHandle" ∧ Y_M_planFirst.1.cls ≠ "java/lang/invoke/VarHandle" ∧ (parseMethodDescriptor Y_M_planFirst.1.desc).map (fun d => d.parameters.length) = some 2) ∧ (Cond.instanceMethod Y_M_planFirst.1 ∈ pj_ws) ∧ (Cond.selects Y_M_planFirst.1.cls Y_M_planFirst.1 Y_M_planFirst.1 ∈ pj_ws) := ⟨pj_mem 1931 (by decide +kernel) rfl, pj_mem 141 (by decide +kernel) rfl, ⟨by decide +kernel, by decide +kernel, by decide +kernel⟩, pj_mem 1929 (by decide +kernel) rfl, pj_mem 1930 (by decide +kernel) rfl⟩
theorem cm_T_stays : (Cond.code Y_T_stays.1 Y_T_stays.2.1 Y_T_stays.2.2.1 Y_T_stays.2.2.2 ∈ pj_ws) ∧ (Cond.initialized Y_T_stays.1.cls ∈ pj_ws) ∧ (Y_T_stays.1.cls ≠ "java/lang/invoke/MethodHandle" ∧ Y_T_stays.1.cls ≠ "java/lang/invoke/VarHandle" ∧ (parseMethodDescriptor Y_T_stays.1.desc).map (fun d => d.parameters.length) = some 3) ∧ (Cond.instanceMethod Y_T_stays.1 ∈ pj_ws) ∧ (Cond.selects Y_T_stays.1.cls Y_T_stays.1 Y_T_stays.1 ∈ pj_ws) := ⟨pj_mem 1016 (by decide +kernel) rfl, pj_mem 130 (by decide +kernel) rfl, ⟨by decide +kernel, by decide +kernel, by decide +kernel⟩, pj_mem 1014 (by decide +kernel) rfl, pj_mem 1015 (by decide +kernel) rfl⟩
theorem cm_M_stays : (Cond.code Y_M_stays.1 Y_M_stays.2.1 Y_M_stays.2.2.1 Y_M_stays.2.2.2 ∈ pj_ws) ∧ (Cond.initialized Y_M_stays.1.cls ∈ pj_ws) ∧ (Y_M_stays.1.cls ≠ "java/lang/invoke/MethodHandle" ∧ Y_M_stays.1.cls ≠ "java/lang/invoke/VarHandle" ∧ (parseMethodDescriptor Y_M_stays.1.desc).map (fun d => d.parameters.length) = some 3) ∧ (Cond.instanceMethod Y_M_stays.1 ∈ pj_ws) ∧ (Cond.selects Y_M_stays.1.cls Y_M_stays.1 Y_M_stays.1 ∈ pj_ws) := ⟨pj_mem 1935 (by decide +kernel) rfl, pj_mem 141 (by decide +kernel) rfl, ⟨by decide +kernel, by decide +kernel, by decide +kernel⟩, pj_mem 1933 (by decide +kernel) rfl, pj_mem 1934 (by decide +kernel) rfl⟩
theorem cm_T_planBy : (Cond.code Y_T_planBy.1 Y_T_planBy.2.1 Y_T_planBy.2.2.1 Y_T_planBy.2.2.2 ∈ pj_ws) ∧ (Cond.initialized Y_T_planBy.1.cls ∈ pj_ws) ∧ (Y_T_planBy.1.cls ≠ "java/lang/invoke/MethodHandle" ∧ Y_T_planBy.1.cls ≠ "java/lang/invoke/VarHandle" ∧ (parseMethodDescriptor Y_T_planBy.1.desc).map (fun d => d.parameters.length) = some 4) ∧ (Cond.instanceMethod Y_T_planBy.1 ∈ pj_ws) ∧ (Cond.selects Y_T_planBy.1.cls Y_T_planBy.1 Y_T_planBy.1 ∈ pj_ws) := ⟨pj_mem 1026 (by decide +kernel) rfl, pj_mem 130 (by decide +kernel) rfl, ⟨by decide +kernel, by decide +kernel, by decide +kernel⟩, pj_mem 1024 (by decide +kernel) rfl, pj_mem 1025 (by decide +kernel) rfl⟩
theorem cm_M_planBy : (Cond.code Y_M_planBy.1 Y_M_planBy.2.1 Y_M_planBy.2.2.1 Y_M_planBy.2.2.2 ∈ pj_ws) ∧ (Cond.initialized Y_M_planBy.1.cls ∈ pj_ws) ∧ (Y_M_planBy.1.cls ≠ "java/lang/invoke/MethodHandle" ∧ Y_M_planBy.1.cls ≠ "java/lang/invoke/VarHandle" ∧ (parseMethodDescriptor Y_M_planBy.1.desc).map (fun d => d.parameters.length) = some 4) ∧ (Cond.instanceMethod Y_M_planBy.1 ∈ pj_ws) ∧ (Cond.selects Y_M_planBy.1.cls Y_M_planBy.1 Y_M_planBy.1 ∈ pj_ws) := ⟨pj_mem 1939 (by decide +kernel) rfl, pj_mem 141 (by decide +kernel) rfl, ⟨by decide +kernel, by decide +kernel, by decide +kernel⟩, pj_mem 1937 (by decide +kernel) rfl, pj_mem 1938 (by decide +kernel) rfl⟩
theorem cs_W_100 : pj_cV "WaverTaxLaw" 100 Y_T_raised 0 10 := ⟨⟨cm_T_raised.1, cm_T_raised.2.1, cm_T_raised.2.2.1, Or.inl (pj_mem 1028 (by decide +kernel) rfl)⟩, by decide, cm_T_raised.2.2.2.1, cm_T_raised.2.2.2.2, ⟨_, rfl, rfl⟩⟩
theorem cs_W_103 : pj_cV "WaverTaxLaw" 103 Y_M_raised 0 12 := ⟨⟨cm_M_raised.1, cm_M_raised.2.1, cm_M_raised.2.2.1, Or.inl (pj_mem 1940 (by decide +kernel) rfl)⟩, by decide, cm_M_raised.2.2.2.1, cm_M_raised.2.2.2.2, ⟨_, rfl, rfl⟩⟩
theorem cs_W_104 : pj_cV "WaverTaxLaw" 104 Y_T_harm 0 10 := ⟨⟨cm_T_harm.1, cm_T_harm.2.1, cm_T_harm.2.2.1, Or.inl (pj_mem 1036 (by decide +kernel) rfl)⟩, by decide, cm_T_harm.2.2.2.1, cm_T_harm.2.2.2.2, ⟨_, rfl, rfl⟩⟩
theorem cs_W_107 : pj_cV "WaverTaxLaw" 107 Y_M_harm 0 12 := ⟨⟨cm_M_harm.1, cm_M_harm.2.1, cm_M_harm.2.2.1, Or.inl (pj_mem 1948 (by decide +kernel) rfl)⟩, by decide, cm_M_harm.2.2.2.1, cm_M_harm.2.2.2.2, ⟨_, rfl, rfl⟩⟩
theorem cs_W_108 : pj_cV "WaverTaxLaw" 108 Y_T_raisedBy 1 10 := ⟨⟨cm_T_raisedBy.1, cm_T_raisedBy.2.1, cm_T_raisedBy.2.2.1, Or.inl (pj_mem 1051 (by decide +kernel) rfl)⟩, by decide, cm_T_raisedBy.2.2.2.1, cm_T_raisedBy.2.2.2.2, ⟨_, rfl, rfl⟩⟩
theorem cs_W_111 : pj_cV "WaverTaxLaw" 111 Y_M_raisedBy 1 12 := ⟨⟨cm_M_raisedBy.1, cm_M_raisedBy.2.1, cm_M_raisedBy.2.2.1, Or.inl (pj_mem 1956 (by decide +kernel) rfl)⟩, by decide, cm_M_raisedBy.2.2.2.1, cm_M_raisedBy.2.2.2.2, ⟨_, rfl, rfl⟩⟩
theorem cs_W_112 : pj_cV "WaverTaxLaw" 112 Y_T_harmBy 1 10 := ⟨⟨cm_T_harmBy.1, cm_T_harmBy.2.1, cm_T_harmBy.2.2.1, Or.inl (pj_mem 1063 (by decide +kernel) rfl)⟩, by decide, cm_T_harmBy.2.2.2.1, cm_T_harmBy.2.2.2.2, ⟨_, rfl, rfl⟩⟩
theorem cs_W_115 : pj_cV "WaverTaxLaw" 115 Y_M_harmBy 1 12 := ⟨⟨cm_M_harmBy.1, cm_M_harmBy.2.1, cm_M_harmBy.2.2.1, Or.inl (pj_mem 1968 (by decide +kernel) rfl)⟩, by decide, cm_M_harmBy.2.2.2.1, cm_M_harmBy.2.2.2.2, ⟨_, rfl, rfl⟩⟩
theorem cs_W_116 : pj_cV "WaverTaxLaw" 116 Y_T_bestTable 0 10 := ⟨⟨cm_T_bestTable.1, cm_T_bestTable.2.1, cm_T_bestTable.2.2.1, Or.inl (pj_mem 1067 (by decide +kernel) rfl)⟩, by decide, cm_T_bestTable.2.2.2.1, cm_T_bestTable.2.2.2.2, ⟨_, rfl, rfl⟩⟩
theorem cs_W_119 : pj_cV "WaverTaxLaw" 119 Y_M_bestTable 0 12 := ⟨⟨cm_M_bestTable.1, cm_M_bestTable.2.1, cm_M_bestTable.2.2.1, Or.inl (pj_mem 1972 (by decide +kernel) rfl)⟩, by decide, cm_M_bestTable.2.2.2.1, cm_M_bestTable.2.2.2.2, ⟨_, rfl, rfl⟩⟩
theorem cs_W_120 : pj_cV "WaverTaxLaw" 120 Y_T_raisedThird 1 10 := ⟨⟨cm_T_raisedThird.1, cm_T_raisedThird.2.1, cm_T_raisedThird.2.2.1, Or.inl (pj_mem 1071 (by decide +kernel) rfl)⟩, by decide, cm_T_raisedThird.2.2.2.1, cm_T_raisedThird.2.2.2.2, ⟨_, rfl, rfl⟩⟩
theorem cs_W_123 : pj_cV "WaverTaxLaw" 123 Y_M_raisedThird 1 12 := ⟨⟨cm_M_raisedThird.1, cm_M_raisedThird.2.1, cm_M_raisedThird.2.2.1, Or.inl (pj_mem 1976 (by decide +kernel) rfl)⟩, by decide, cm_M_raisedThird.2.2.2.1, cm_M_raisedThird.2.2.2.2, ⟨_, rfl, rfl⟩⟩
theorem cs_W_124 : pj_cV "WaverTaxLaw" 124 Y_T_harmThird 1 10 := ⟨⟨cm_T_harmThird.1, cm_T_harmThird.2.1, cm_T_harmThird.2.2.1, Or.inl (pj_mem 1079 (by decide +kernel) rfl)⟩, by decide, cm_T_harmThird.2.2.2.1, cm_T_harmThird.2.2.2.2, ⟨_, rfl, rfl⟩⟩
theorem cs_W_127 : pj_cV "WaverTaxLaw" 127 Y_M_harmThird 1 12 := ⟨⟨cm_M_harmThird.1, cm_M_harmThird.2.1, cm_M_harmThird.2.2.1, Or.inl (pj_mem 1988 (by decide +kernel) rfl)⟩, by decide, cm_M_harmThird.2.2.2.1, cm_M_harmThird.2.2.2.2, ⟨_, rfl, rfl⟩⟩
theorem cs_W_128 : pj_cV "WaverTaxLaw" 128 Y_T_stillTable 0 10 := ⟨⟨cm_T_stillTable.1, cm_T_stillTable.2.1, cm_T_stillTable.2.2.1, Or.inl (pj_mem 1083 (by decide +kernel) rfl)⟩, by decide, cm_T_stillTable.2.2.2.1, cm_T_stillTable.2.2.2.2, ⟨_, rfl, rfl⟩⟩
theorem cs_W_131 : pj_cV "WaverTaxLaw" 131 Y_M_stillTable 0 12 := ⟨⟨cm_M_stillTable.1, cm_M_stillTable.2.1, cm_M_stillTable.2.2.1, Or.inl (pj_mem 1992 (by decide +kernel) rfl)⟩, by decide, cm_M_stillTable.2.2.2.1, cm_M_stillTable.2.2.2.2, ⟨_, rfl, rfl⟩⟩
theorem cs_W_132 : pj_cV "WaverTaxLaw" 132 Y_T_rows 1 10 := ⟨⟨cm_T_rows.1, cm_T_rows.2.1, cm_T_rows.2.2.1, Or.inl (pj_mem 1087 (by decide +kernel) rfl)⟩, by decide, cm_T_rows.2.2.2.1, cm_T_rows.2.2.2.2, ⟨_, rfl, rfl⟩⟩
theorem cs_W_135 : pj_cV "WaverTaxLaw" 135 Y_M_rows 1 12 := ⟨⟨cm_M_rows.1, cm_M_rows.2.1, cm_M_rows.2.2.1, Or.inl (pj_mem 1996 (by decide +kernel) rfl)⟩, by decide, cm_M_rows.2.2.2.1, cm_M_rows.2.2.2.2, ⟨_, rfl, rfl⟩⟩
theorem cs_W_136 : pj_cV "WaverTaxLaw" 136 Y_T_could 1 10 := ⟨⟨cm_T_could.1, cm_T_could.2.1, cm_T_could.2.2.1, Or.inl (pj_mem 1117 (by decide +kernel) rfl)⟩, by decide, cm_T_could.2.2.2.1, cm_T_could.2.2.2.2, ⟨_, rfl, rfl⟩⟩
theorem cs_W_139 : pj_cV "WaverTaxLaw" 139 Y_M_could 1 12 := ⟨⟨cm_M_could.1, cm_M_could.2.1, cm_M_could.2.2.1, Or.inl (pj_mem 2016 (by decide +kernel) rfl)⟩, by decide, cm_M_could.2.2.2.1, cm_M_could.2.2.2.2, ⟨_, rfl, rfl⟩⟩
theorem cs_W_140 : pj_cV "WaverTaxLaw" 140 Y_T_surely 1 10 := ⟨⟨cm_T_surely.1, cm_T_surely.2.1, cm_T_surely.2.2.1, Or.inl (pj_mem 1129 (by decide +kernel) rfl)⟩, by decide, cm_T_surely.2.2.2.1, cm_T_surely.2.2.2.2, ⟨_, rfl, rfl⟩⟩
theorem cs_W_143 : pj_cV "WaverTaxLaw" 143 Y_M_surely 1 12 := ⟨⟨cm_M_surely.1, cm_M_surely.2.1, cm_M_surely.2.2.1, Or.inl (pj_mem 2028 (by decide +kernel) rfl)⟩, by decide, cm_M_surely.2.2.2.1, cm_M_surely.2.2.2.2, ⟨_, rfl, rfl⟩⟩
theorem cs_W_144 : pj_cV "WaverTaxLaw" 144 Y_T_firstOf 1 10 := ⟨⟨cm_T_firstOf.1, cm_T_firstOf.2.1, cm_T_firstOf.2.2.1, Or.inl (pj_mem 1137 (by decide +kernel) rfl)⟩, by decide, cm_T_firstOf.2.2.2.1, cm_T_firstOf.2.2.2.2, ⟨_, rfl, rfl⟩⟩
theorem cs_W_147 : pj_cV "WaverTaxLaw" 147 Y_M_firstOf 1 12 := ⟨⟨cm_M_firstOf.1, cm_M_firstOf.2.1, cm_M_firstOf.2.2.1, Or.inl (pj_mem 2032 (by decide +kernel) rfl)⟩, by decide, cm_M_firstOf.2.2.2.1, cm_M_firstOf.2.2.2.2, ⟨_, rfl, rfl⟩⟩
theorem cs_W_148 : pj_cV "WaverTaxLaw" 148 Y_T_ask 0 10 := ⟨⟨cm_T_ask.1, cm_T_ask.2.1, cm_T_ask.2.2.1, Or.inl (pj_mem 1141 (by decide +kernel) rfl)⟩, by decide, cm_T_ask.2.2.2.1, cm_T_ask.2.2.2.2, ⟨_, rfl, rfl⟩⟩
theorem cs_W_15 : pj_cI "WaverTaxLaw" 15 Y_T_init 0 := ⟨⟨cm_T_init.1, cm_T_init.2.1, cm_T_init.2.2.1, Or.inl (pj_mem 157 (by decide +kernel) rfl)⟩, rfl, rfl, cm_T_init.2.2.2.1⟩
theorem cs_W_151 : pj_cV "WaverTaxLaw" 151 Y_M_ask 0 12 := ⟨⟨cm_M_ask.1, cm_M_ask.2.1, cm_M_ask.2.2.1, Or.inl (pj_mem 2036 (by decide +kernel) rfl)⟩, by decide, cm_M_ask.2.2.2.1, cm_M_ask.2.2.2.2, ⟨_, rfl, rfl⟩⟩
theorem cs_W_152 : pj_cV "WaverTaxLaw" 152 Y_T_askLeaves 0 10 := ⟨⟨cm_T_askLeaves.1, cm_T_askLeaves.2.1, cm_T_askLeaves.2.2.1, Or.inl (pj_mem 1160 (by decide +kernel) rfl)⟩, by decide, cm_T_askLeaves.2.2.2.1, cm_T_askLeaves.2.2.2.2, ⟨_, rfl, rfl⟩⟩
theorem cs_W_155 : pj_cV "WaverTaxLaw" 155 Y_M_askLeaves 0 12 := ⟨⟨cm_M_askLeaves.1, cm_M_askLeaves.2.1, cm_M_askLeaves.2.2.1, Or.inl (pj_mem 2044 (by decide +kernel) rfl)⟩, by decide, cm_M_askLeaves.2.2.2.1, cm_M_askLeaves.2.2.2.2, ⟨_, rfl, rfl⟩⟩
theorem cs_W_156 : pj_cV "WaverTaxLaw" 156 Y_T_liar 0 10 := ⟨⟨cm_T_liar.1, cm_T_liar.2.1, cm_T_liar.2.2.1, Or.inl (pj_mem 1164 (by decide +kernel) rfl)⟩, by decide, cm_T_liar.2.2.2.1, cm_T_liar.2.2.2.2, ⟨_, rfl, rfl⟩⟩
theorem cs_W_159 : pj_cV "WaverTaxLaw" 159 Y_M_liar 0 12 := ⟨⟨cm_M_liar.1, cm_M_liar.2.1, cm_M_liar.2.2.1, Or.inl (pj_mem 2048 (by decide +kernel) rfl)⟩, by decide, cm_M_liar.2.2.2.1, cm_M_liar.2.2.2.2, ⟨_, rfl, rfl⟩⟩
theorem cs_W_160 : pj_cV "WaverTaxLaw" 160 Y_T_caught 1 10 := ⟨⟨cm_T_caught.1, cm_T_caught.2.1, cm_T_caught.2.2.1, Or.inl (pj_mem 1168 (by decide +kernel) rfl)⟩, by decide, cm_T_caught.2.2.2.1, cm_T_caught.2.2.2.2, ⟨_, rfl, rfl⟩⟩
theorem cs_W_163 : pj_cV "WaverTaxLaw" 163 Y_M_caught 1 12 := ⟨⟨cm_M_caught.1, cm_M_caught.2.1, cm_M_caught.2.2.1, Or.inl (pj_mem 2052 (by decide +kernel) rfl)⟩, by decide, cm_M_caught.2.2.2.1, cm_M_caught.2.2.2.2, ⟨_, rfl, rfl⟩⟩
theorem cs_W_164 : pj_cV "WaverTaxLaw" 164 Y_T_places 1 10 := ⟨⟨cm_T_places.1, cm_T_places.2.1, cm_T_places.2.2.1, Or.inl (pj_mem 1182 (by decide +kernel) rfl)⟩, by decide, cm_T_places.2.2.2.1, cm_T_places.2.2.2.2, ⟨_, rfl, rfl⟩⟩
theorem cs_W_167 : pj_cV "WaverTaxLaw" 167 Y_M_places 1 12 := ⟨⟨cm_M_places.1, cm_M_places.2.1, cm_M_places.2.2.1, Or.inl (pj_mem 2068 (by decide +kernel) rfl)⟩, by decide, cm_M_places.2.2.2.1, cm_M_places.2.2.2.2, ⟨_, rfl, rfl⟩⟩
theorem cs_W_168 : pj_cV "WaverTaxLaw" 168 Y_T_enough 0 10 := ⟨⟨cm_T_enough.1, cm_T_enough.2.1, cm_T_enough.2.2.1, Or.inl (pj_mem 1186 (by decide +kernel) rfl)⟩, by decide, cm_T_enough.2.2.2.1, cm_T_enough.2.2.2.2, ⟨_, rfl, rfl⟩⟩
theorem cs_W_171 : pj_cV "WaverTaxLaw" 171 Y_M_enough 0 12 := ⟨⟨cm_M_enough.1, cm_M_enough.2.1, cm_M_enough.2.2.1, Or.inl (pj_mem 2072 (by decide +kernel) rfl)⟩, by decide, cm_M_enough.2.2.2.1, cm_M_enough.2.2.2.2, ⟨_, rfl, rfl⟩⟩
theorem cs_W_172 : pj_cV "WaverTaxLaw" 172 Y_T_catches 1 10 := ⟨⟨cm_T_catches.1, cm_T_catches.2.1, cm_T_catches.2.2.1, Or.inl (pj_mem 1195 (by decide +kernel) rfl)⟩, by decide, cm_T_catches.2.2.2.1, cm_T_catches.2.2.2.2, ⟨_, rfl, rfl⟩⟩
theorem cs_W_175 : pj_cV "WaverTaxLaw" 175 Y_M_catches 1 12 := ⟨⟨cm_M_catches.1, cm_M_catches.2.1, cm_M_catches.2.2.1, Or.inl (pj_mem 2076 (by decide +kernel) rfl)⟩, by decide, cm_M_catches.2.2.2.1, cm_M_catches.2.2.2.2, ⟨_, rfl, rfl⟩⟩
theorem cs_W_176 : pj_cV "WaverTaxLaw" 176 Y_T_two 5 10 := ⟨⟨cm_T_two.1, cm_T_two.2.1, cm_T_two.2.2.1, Or.inl (pj_mem 1199 (by decide +kernel) rfl)⟩, by decide, cm_T_two.2.2.2.1, cm_T_two.2.2.2.2, ⟨_, rfl, rfl⟩⟩
theorem cs_W_18 : pj_cI "WaverTaxLaw" 18 Y_M_init 0 := ⟨⟨cm_M_init.1, cm_M_init.2.1, cm_M_init.2.2.1, Or.inl (pj_mem 1383 (by decide +kernel) rfl)⟩, rfl, rfl, cm_M_init.2.2.2.1⟩
theorem cs_W_180 : pj_cV "WaverTaxLaw" 180 Y_M_two 5 12 := ⟨⟨cm_M_two.1, cm_M_two.2.1, cm_M_two.2.2.1, Or.inl (pj_mem 2080 (by decide +kernel) rfl)⟩, by decide, cm_M_two.2.2.2.1, cm_M_two.2.2.2.2, ⟨_, rfl, rfl⟩⟩
theorem cs_W_181 : pj_cV "WaverTaxLaw" 181 Y_T_rests 2 10 := ⟨⟨cm_T_rests.1, cm_T_rests.2.1, cm_T_rests.2.2.1, Or.inl (pj_mem 1211 (by decide +kernel) rfl)⟩, by decide, cm_T_rests.2.2.2.1, cm_T_rests.2.2.2.2, ⟨_, rfl, rfl⟩⟩
theorem cs_W_184 : pj_cV "WaverTaxLaw" 184 Y_M_rests 2 12 := ⟨⟨cm_M_rests.1, cm_M_rests.2.1, cm_M_rests.2.2.1, Or.inl (pj_mem 2096 (by decide +kernel) rfl)⟩, by decide, cm_M_rests.2.2.2.1, cm_M_rests.2.2.2.2, ⟨_, rfl, rfl⟩⟩
theorem cs_W_185 : pj_cV "WaverTaxLaw" 185 Y_T_rest 2 10 := ⟨⟨cm_T_rest.1, cm_T_rest.2.1, cm_T_rest.2.2.1, Or.inl (pj_mem 1219 (by decide +kernel) rfl)⟩, by decide, cm_T_rest.2.2.2.1, cm_T_rest.2.2.2.2, ⟨_, rfl, rfl⟩⟩
theorem cs_W_188 : pj_cV "WaverTaxLaw" 188 Y_M_rest 2 12 := ⟨⟨cm_M_rest.1, cm_M_rest.2.1, cm_M_rest.2.2.1, Or.inl (pj_mem 2104 (by decide +kernel) rfl)⟩, by decide, cm_M_rest.2.2.2.1, cm_M_rest.2.2.2.2, ⟨_, rfl, rfl⟩⟩
theorem cs_W_189 : pj_cV "WaverTaxLaw" 189 Y_T_year 2 10 := ⟨⟨cm_T_year.1, cm_T_year.2.1, cm_T_year.2.2.1, Or.inl (pj_mem 1223 (by decide +kernel) rfl)⟩, by decide, cm_T_year.2.2.2.1, cm_T_year.2.2.2.2, ⟨_, rfl, rfl⟩⟩
theorem cs_W_19 : pj_cV "WaverTaxLaw" 19 Y_T_feed 5 10 := ⟨⟨cm_T_feed.1, cm_T_feed.2.1, cm_T_feed.2.2.1, Or.inl (pj_mem 596 (by decide +kernel) rfl)⟩, by decide, cm_T_feed.2.2.2.1, cm_T_feed.2.2.2.2, ⟨_, rfl, rfl⟩⟩
theorem cs_W_192 : pj_cV "WaverTaxLaw" 192 Y_M_year 2 12 := ⟨⟨cm_M_year.1, cm_M_year.2.1, cm_M_year.2.2.1, Or.inl (pj_mem 2108 (by decide +kernel) rfl)⟩, by decide, cm_M_year.2.2.2.1, cm_M_year.2.2.2.2, ⟨_, rfl, rfl⟩⟩
theorem cs_W_193 : pj_cV "WaverTaxLaw" 193 Y_T_yearHeld 3 10 := ⟨⟨cm_T_yearHeld.1, cm_T_yearHeld.2.1, cm_T_yearHeld.2.2.1, Or.inl (pj_mem 1243 (by decide +kernel) rfl)⟩, by decide, cm_T_yearHeld.2.2.2.1, cm_T_yearHeld.2.2.2.2, ⟨_, rfl, rfl⟩⟩
theorem cs_W_197 : pj_cV "WaverTaxLaw" 197 Y_M_yearHeld 3 12 := ⟨⟨cm_M_yearHeld.1, cm_M_yearHeld.2.1, cm_M_yearHeld.2.2.1, Or.inl (pj_mem 2136 (by decide +kernel) rfl)⟩, by decide, cm_M_yearHeld.2.2.2.1, cm_M_yearHeld.2.2.2.2, ⟨_, rfl, rfl⟩⟩
theorem cs_W_198 : pj_cV "WaverTaxLaw" 198 Y_T_yearChanges 2 10 := ⟨⟨cm_T_yearChanges.1, cm_T_yearChanges.2.1, cm_T_yearChanges.2.2.1, Or.inl (pj_mem 1247 (by decide +kernel) rfl)⟩, by decide, cm_T_yearChanges.2.2.2.1, cm_T_yearChanges.2.2.2.2, ⟨_, rfl, rfl⟩⟩
theorem cs_W_201 : pj_cV "WaverTaxLaw" 201 Y_M_yearChanges 2 12 := ⟨⟨cm_M_yearChanges.1, cm_M_yearChanges.2.1, cm_M_yearChanges.2.2.1, Or.inl (pj_mem 2140 (by decide +kernel) rfl)⟩, by decide, cm_M_yearChanges.2.2.2.1, cm_M_yearChanges.2.2.2.2, ⟨_, rfl, rfl⟩⟩
theorem cs_W_202 : pj_cV "WaverTaxLaw" 202 Y_T_change 2 10 := ⟨⟨cm_T_change.1, cm_T_change.2.1, cm_T_change.2.2.1, Or.inl (pj_mem 1255 (by decide +kernel) rfl)⟩, by decide, cm_T_change.2.2.2.1, cm_T_change.2.2.2.2, ⟨_, rfl, rfl⟩⟩
theorem cs_W_205 : pj_cV "WaverTaxLaw" 205 Y_M_change 2 12 := ⟨⟨cm_M_change.1, cm_M_change.2.1, cm_M_change.2.2.1, Or.inl (pj_mem 2144 (by decide +kernel) rfl)⟩, by decide, cm_M_change.2.2.2.1, cm_M_change.2.2.2.2, ⟨_, rfl, rfl⟩⟩
theorem cs_W_206 : pj_cV "WaverTaxLaw" 206 Y_T_hours 1 10 := ⟨⟨cm_T_hours.1, cm_T_hours.2.1, cm_T_hours.2.2.1, Or.inl (pj_mem 1264 (by decide +kernel) rfl)⟩, by decide, cm_T_hours.2.2.2.1, cm_T_hours.2.2.2.2, ⟨_, rfl, rfl⟩⟩
theorem cs_W_209 : pj_cV "WaverTaxLaw" 209 Y_M_hours 1 12 := ⟨⟨cm_M_hours.1, cm_M_hours.2.1, cm_M_hours.2.2.1, Or.inl (pj_mem 2152 (by decide +kernel) rfl)⟩, by decide, cm_M_hours.2.2.2.1, cm_M_hours.2.2.2.2, ⟨_, rfl, rfl⟩⟩
theorem cs_W_210 : pj_cV "WaverTaxLaw" 210 Y_T_seed 1 10 := ⟨⟨cm_T_seed.1, cm_T_seed.2.1, cm_T_seed.2.2.1, Or.inl (pj_mem 1268 (by decide +kernel) rfl)⟩, by decide, cm_T_seed.2.2.2.1, cm_T_seed.2.2.2.2, ⟨_, rfl, rfl⟩⟩
theorem cs_W_214 : pj_cV "WaverTaxLaw" 214 Y_M_seed 1 12 := ⟨⟨cm_M_seed.1, cm_M_seed.2.1, cm_M_seed.2.2.1, Or.inl (pj_mem 2156 (by decide +kernel) rfl)⟩, by decide, cm_M_seed.2.2.2.1, cm_M_seed.2.2.2.2, ⟨_, rfl, rfl⟩⟩
theorem cs_W_215 : pj_cV "WaverTaxLaw" 215 Y_T_undo 0 10 := ⟨⟨cm_T_undo.1, cm_T_undo.2.1, cm_T_undo.2.2.1, Or.inl (pj_mem 1276 (by decide +kernel) rfl)⟩, by decide, cm_T_undo.2.2.2.1, cm_T_undo.2.2.2.2, ⟨_, rfl, rfl⟩⟩
theorem cs_W_219 : pj_cV "WaverTaxLaw" 219 Y_M_undo 0 12 := ⟨⟨cm_M_undo.1, cm_M_undo.2.1, cm_M_undo.2.2.1, Or.inl (pj_mem 2168 (by decide +kernel) rfl)⟩, by decide, cm_M_undo.2.2.2.1, cm_M_undo.2.2.2.2, ⟨_, rfl, rfl⟩⟩
theorem cs_W_220 : pj_cV "WaverTaxLaw" 220 Y_T_mark 0 10 := ⟨⟨cm_T_mark.1, cm_T_mark.2.1, cm_T_mark.2.2.1, Or.inl (pj_mem 1284 (by decide +kernel) rfl)⟩, by decide, cm_T_mark.2.2.2.1, cm_T_mark.2.2.2.2, ⟨_, rfl, rfl⟩⟩
theorem cs_W_223 : pj_cV "WaverTaxLaw" 223 Y_M_mark 0 12 := ⟨⟨cm_M_mark.1, cm_M_mark.2.1, cm_M_mark.2.2.1, Or.inl (pj_mem 2172 (by decide +kernel) rfl)⟩, by decide, cm_M_mark.2.2.2.1, cm_M_mark.2.2.2.2, ⟨_, rfl, rfl⟩⟩
theorem cs_W_224 : pj_cV "WaverTaxLaw" 224 Y_T_back 1 10 := ⟨⟨cm_T_back.1, cm_T_back.2.1, cm_T_back.2.2.1, Or.inl (pj_mem 1292 (by decide +kernel) rfl)⟩, by decide, cm_T_back.2.2.2.1, cm_T_back.2.2.2.2, ⟨_, rfl, rfl⟩⟩
theorem cs_W_227 : pj_cV "WaverTaxLaw" 227 Y_M_back 1 12 := ⟨⟨cm_M_back.1, cm_M_back.2.1, cm_M_back.2.2.1, Or.inl (pj_mem 2176 (by decide +kernel) rfl)⟩, by decide, cm_M_back.2.2.2.1, cm_M_back.2.2.2.2, ⟨_, rfl, rfl⟩⟩
theorem cs_W_23 : pj_cV "WaverTaxLaw" 23 Y_M_feed 5 12 := ⟨⟨cm_M_feed.1, cm_M_feed.2.1, cm_M_feed.2.2.1, Or.inl (pj_mem 1489 (by decide +kernel) rfl)⟩, by decide, cm_M_feed.2.2.2.1, cm_M_feed.2.2.2.2, ⟨_, rfl, rfl⟩⟩
theorem cs_W_233 : pj_cV "WaverTaxLaw" 233 Y_M_led 1 12 := ⟨⟨cm_M_led.1, cm_M_led.2.1, cm_M_led.2.2.1, Or.inl (pj_mem 2180 (by decide +kernel) rfl)⟩, by decide, cm_M_led.2.2.2.1, cm_M_led.2.2.2.2, ⟨_, rfl, rfl⟩⟩
theorem cs_W_234 : pj_cV "WaverTaxLaw" 234 Y_M_thrown 0 12 := ⟨⟨cm_M_thrown.1, cm_M_thrown.2.1, cm_M_thrown.2.2.1, Or.inl (pj_mem 1485 (by decide +kernel) rfl)⟩, by decide, cm_M_thrown.2.2.2.1, cm_M_thrown.2.2.2.2, ⟨_, rfl, rfl⟩⟩
theorem cs_W_237 : pj_cV "WaverTaxLaw" 237 Y_T_size 1 10 := ⟨⟨cm_T_size.1, cm_T_size.2.1, cm_T_size.2.2.1, Or.inl (pj_mem 1300 (by decide +kernel) rfl)⟩, by decide, cm_T_size.2.2.2.1, cm_T_size.2.2.2.2, ⟨_, rfl, rfl⟩⟩
theorem cs_W_24 : pj_cV "WaverTaxLaw" 24 Y_T_laws 1 10 := ⟨⟨cm_T_laws.1, cm_T_laws.2.1, cm_T_laws.2.2.1, Or.inl (pj_mem 604 (by decide +kernel) rfl)⟩, by decide, cm_T_laws.2.2.2.1, cm_T_laws.2.2.2.2, ⟨_, rfl, rfl⟩⟩
theorem cs_W_240 : pj_cV "WaverTaxLaw" 240 Y_M_size 1 12 := ⟨⟨cm_M_size.1, cm_M_size.2.1, cm_M_size.2.2.1, Or.inl (pj_mem 2184 (by decide +kernel) rfl)⟩, by decide, cm_M_size.2.2.2.1, cm_M_size.2.2.2.2, ⟨_, rfl, rfl⟩⟩
theorem cs_W_241 : pj_cV "WaverTaxLaw" 241 Y_T_trouble 0 10 := ⟨⟨cm_T_trouble.1, cm_T_trouble.2.1, cm_T_trouble.2.2.1, Or.inl (pj_mem 1304 (by decide +kernel) rfl)⟩, by decide, cm_T_trouble.2.2.2.1, cm_T_trouble.2.2.2.2, ⟨_, rfl, rfl⟩⟩
theorem cs_W_244 : pj_cV "WaverTaxLaw" 244 Y_M_trouble 0 12 := ⟨⟨cm_M_trouble.1, cm_M_trouble.2.1, cm_M_trouble.2.2.1, Or.inl (pj_mem 2188 (by decide +kernel) rfl)⟩, by decide, cm_M_trouble.2.2.2.1, cm_M_trouble.2.2.2.2, ⟨_, rfl, rfl⟩⟩
theorem cs_W_27 : pj_cV "WaverTaxLaw" 27 Y_M_laws 1 12 := ⟨⟨cm_M_laws.1, cm_M_laws.2.1, cm_M_laws.2.2.1, Or.inl (pj_mem 1493 (by decide +kernel) rfl)⟩, by decide, cm_M_laws.2.2.2.1, cm_M_laws.2.2.2.2, ⟨_, rfl, rfl⟩⟩
theorem cs_W_28 : pj_cV "WaverTaxLaw" 28 Y_T_fault 0 10 := ⟨⟨cm_T_fault.1, cm_T_fault.2.1, cm_T_fault.2.2.1, Or.inl (pj_mem 818 (by decide +kernel) rfl)⟩, by decide, cm_T_fault.2.2.2.1, cm_T_fault.2.2.2.2, ⟨_, rfl, rfl⟩⟩
theorem cs_W_32 : pj_cV "WaverTaxLaw" 32 Y_M_fault 0 12 := ⟨⟨cm_M_fault.1, cm_M_fault.2.1, cm_M_fault.2.2.1, Or.inl (pj_mem 1766 (by decide +kernel) rfl)⟩, by decide, cm_M_fault.2.2.2.1, cm_M_fault.2.2.2.2, ⟨_, rfl, rfl⟩⟩
theorem cs_W_33 : pj_cV "WaverTaxLaw" 33 Y_T_where 0 10 := ⟨⟨cm_T_where.1, cm_T_where.2.1, cm_T_where.2.2.1, Or.inl (pj_mem 822 (by decide +kernel) rfl)⟩, by decide, cm_T_where.2.2.2.1, cm_T_where.2.2.2.2, ⟨_, rfl, rfl⟩⟩
theorem cs_W_36 : pj_cV "WaverTaxLaw" 36 Y_M_where 0 12 := ⟨⟨cm_M_where.1, cm_M_where.2.1, cm_M_where.2.2.1, Or.inl (pj_mem 1770 (by decide +kernel) rfl)⟩, by decide, cm_M_where.2.2.2.1, cm_M_where.2.2.2.2, ⟨_, rfl, rfl⟩⟩
theorem cs_W_37 : pj_cV "WaverTaxLaw" 37 Y_T_person 2 10 := ⟨⟨cm_T_person.1, cm_T_person.2.1, cm_T_person.2.2.1, Or.inl (pj_mem 826 (by decide +kernel) rfl)⟩, by decide, cm_T_person.2.2.2.1, cm_T_person.2.2.2.2, ⟨_, rfl, rfl⟩⟩
theorem cs_W_41 : pj_cV "WaverTaxLaw" 41 Y_M_person 2 12 := ⟨⟨cm_M_person.1, cm_M_person.2.1, cm_M_person.2.2.1, Or.inl (pj_mem 1774 (by decide +kernel) rfl)⟩, by decide, cm_M_person.2.2.2.1, cm_M_person.2.2.2.2, ⟨_, rfl, rfl⟩⟩
theorem cs_W_42 : pj_cV "WaverTaxLaw" 42 Y_T_far 2 10 := ⟨⟨cm_T_far.1, cm_T_far.2.1, cm_T_far.2.2.1, Or.inl (pj_mem 834 (by decide +kernel) rfl)⟩, by decide, cm_T_far.2.2.2.1, cm_T_far.2.2.2.2, ⟨_, rfl, rfl⟩⟩
theorem cs_W_45 : pj_cV "WaverTaxLaw" 45 Y_M_far 2 12 := ⟨⟨cm_M_far.1, cm_M_far.2.1, cm_M_far.2.2.1, Or.inl (pj_mem 1782 (by decide +kernel) rfl)⟩, by decide, cm_M_far.2.2.2.1, cm_M_far.2.2.2.2, ⟨_, rfl, rfl⟩⟩
theorem cs_W_46 : pj_cV "WaverTaxLaw" 46 Y_T_worth 2 10 := ⟨⟨cm_T_worth.1, cm_T_worth.2.1, cm_T_worth.2.2.1, Or.inl (pj_mem 846 (by decide +kernel) rfl)⟩, by decide, cm_T_worth.2.2.2.1, cm_T_worth.2.2.2.2, ⟨_, rfl, rfl⟩⟩
theorem cs_W_49 : pj_cV "WaverTaxLaw" 49 Y_M_worth 2 12 := ⟨⟨cm_M_worth.1, cm_M_worth.2.1, cm_M_worth.2.2.1, Or.inl (pj_mem 1794 (by decide +kernel) rfl)⟩, by decide, cm_M_worth.2.2.2.1, cm_M_worth.2.2.2.2, ⟨_, rfl, rfl⟩⟩
theorem cs_W_50 : pj_cV "WaverTaxLaw" 50 Y_T_tax 2 10 := ⟨⟨cm_T_tax.1, cm_T_tax.2.1, cm_T_tax.2.2.1, Or.inl (pj_mem 866 (by decide +kernel) rfl)⟩, by decide, cm_T_tax.2.2.2.1, cm_T_tax.2.2.2.2, ⟨_, rfl, rfl⟩⟩
theorem cs_W_53 : pj_cV "WaverTaxLaw" 53 Y_M_tax 2 12 := ⟨⟨cm_M_tax.1, cm_M_tax.2.1, cm_M_tax.2.2.1, Or.inl (pj_mem 1806 (by decide +kernel) rfl)⟩, by decide, cm_M_tax.2.2.2.1, cm_M_tax.2.2.2.2, ⟨_, rfl, rfl⟩⟩
theorem cs_W_54 : pj_cV "WaverTaxLaw" 54 Y_T_chooses 1 10 := ⟨⟨cm_T_chooses.1, cm_T_chooses.2.1, cm_T_chooses.2.2.1, Or.inl (pj_mem 875 (by decide +kernel) rfl)⟩, by decide, cm_T_chooses.2.2.2.1, cm_T_chooses.2.2.2.2, ⟨_, rfl, rfl⟩⟩
theorem cs_W_57 : pj_cV "WaverTaxLaw" 57 Y_M_chooses 1 12 := ⟨⟨cm_M_chooses.1, cm_M_chooses.2.1, cm_M_chooses.2.2.1, Or.inl (pj_mem 1822 (by decide +kernel) rfl)⟩, by decide, cm_M_chooses.2.2.2.1, cm_M_chooses.2.2.2.2, ⟨_, rfl, rfl⟩⟩
theorem cs_W_58 : pj_cV "WaverTaxLaw" 58 Y_T_waverers 0 10 := ⟨⟨cm_T_waverers.1, cm_T_waverers.2.1, cm_T_waverers.2.2.1, Or.inl (pj_mem 889 (by decide +kernel) rfl)⟩, by decide, cm_T_waverers.2.2.2.1, cm_T_waverers.2.2.2.2, ⟨_, rfl, rfl⟩⟩
theorem cs_W_61 : pj_cV "WaverTaxLaw" 61 Y_M_waverers 0 12 := ⟨⟨cm_M_waverers.1, cm_M_waverers.2.1, cm_M_waverers.2.2.1, Or.inl (pj_mem 1830 (by decide +kernel) rfl)⟩, by decide, cm_M_waverers.2.2.2.1, cm_M_waverers.2.2.2.2, ⟨_, rfl, rfl⟩⟩
theorem cs_W_62 : pj_cV "WaverTaxLaw" 62 Y_T_holders 1 10 := ⟨⟨cm_T_holders.1, cm_T_holders.2.1, cm_T_holders.2.2.1, Or.inl (pj_mem 898 (by decide +kernel) rfl)⟩, by decide, cm_T_holders.2.2.2.1, cm_T_holders.2.2.2.2, ⟨_, rfl, rfl⟩⟩
theorem cs_W_65 : pj_cV "WaverTaxLaw" 65 Y_M_holders 1 12 := ⟨⟨cm_M_holders.1, cm_M_holders.2.1, cm_M_holders.2.2.1, Or.inl (pj_mem 1838 (by decide +kernel) rfl)⟩, by decide, cm_M_holders.2.2.2.1, cm_M_holders.2.2.2.2, ⟨_, rfl, rfl⟩⟩
theorem cs_W_66 : pj_cV "WaverTaxLaw" 66 Y_T_fashion 0 10 := ⟨⟨cm_T_fashion.1, cm_T_fashion.2.1, cm_T_fashion.2.2.1, Or.inl (pj_mem 906 (by decide +kernel) rfl)⟩, by decide, cm_T_fashion.2.2.2.1, cm_T_fashion.2.2.2.2, ⟨_, rfl, rfl⟩⟩
theorem cs_W_69 : pj_cV "WaverTaxLaw" 69 Y_M_fashion 0 12 := ⟨⟨cm_M_fashion.1, cm_M_fashion.2.1, cm_M_fashion.2.2.1, Or.inl (pj_mem 1846 (by decide +kernel) rfl)⟩, by decide, cm_M_fashion.2.2.2.1, cm_M_fashion.2.2.2.2, ⟨_, rfl, rfl⟩⟩
theorem cs_W_70 : pj_cV "WaverTaxLaw" 70 Y_T_came 1 10 := ⟨⟨cm_T_came.1, cm_T_came.2.1, cm_T_came.2.2.1, Or.inl (pj_mem 916 (by decide +kernel) rfl)⟩, by decide, cm_T_came.2.2.2.1, cm_T_came.2.2.2.2, ⟨_, rfl, rfl⟩⟩
theorem cs_W_73 : pj_cV "WaverTaxLaw" 73 Y_M_came 1 12 := ⟨⟨cm_M_came.1, cm_M_came.2.1, cm_M_came.2.2.1, Or.inl (pj_mem 1853 (by decide +kernel) rfl)⟩, by decide, cm_M_came.2.2.2.1, cm_M_came.2.2.2.2, ⟨_, rfl, rfl⟩⟩
theorem cs_W_74 : pj_cV "WaverTaxLaw" 74 Y_T_paid 0 10 := ⟨⟨cm_T_paid.1, cm_T_paid.2.1, cm_T_paid.2.2.1, Or.inl (pj_mem 921 (by decide +kernel) rfl)⟩, by decide, cm_T_paid.2.2.2.1, cm_T_paid.2.2.2.2, ⟨_, rfl, rfl⟩⟩
theorem cs_W_77 : pj_cV "WaverTaxLaw" 77 Y_M_paid 0 12 := ⟨⟨cm_M_paid.1, cm_M_paid.2.1, cm_M_paid.2.2.1, Or.inl (pj_mem 1857 (by decide +kernel) rfl)⟩, by decide, cm_M_paid.2.2.2.1, cm_M_paid.2.2.2.2, ⟨_, rfl, rfl⟩⟩
theorem cs_W_78 : pj_cV "WaverTaxLaw" 78 Y_T_farthest 0 10 := ⟨⟨cm_T_farthest.1, cm_T_farthest.2.1, cm_T_farthest.2.2.1, Or.inl (pj_mem 929 (by decide +kernel) rfl)⟩, by decide, cm_T_farthest.2.2.2.1, cm_T_farthest.2.2.2.2, ⟨_, rfl, rfl⟩⟩
theorem cs_W_81 : pj_cV "WaverTaxLaw" 81 Y_M_farthest 0 12 := ⟨⟨cm_M_farthest.1, cm_M_farthest.2.1, cm_M_farthest.2.2.1, Or.inl (pj_mem 1861 (by decide +kernel) rfl)⟩, by decide, cm_M_farthest.2.2.2.1, cm_M_farthest.2.2.2.2, ⟨_, rfl, rfl⟩⟩
theorem cs_W_82 : pj_cV "WaverTaxLaw" 82 Y_T_plan 3 10 := ⟨⟨cm_T_plan.1, cm_T_plan.2.1, cm_T_plan.2.2.1, Or.inl (pj_mem 938 (by decide +kernel) rfl)⟩, by decide, cm_T_plan.2.2.2.1, cm_T_plan.2.2.2.2, ⟨_, rfl, rfl⟩⟩
theorem cs_W_86 : pj_cV "WaverTaxLaw" 86 Y_M_plan 3 12 := ⟨⟨cm_M_plan.1, cm_M_plan.2.1, cm_M_plan.2.2.1, Or.inl (pj_mem 1865 (by decide +kernel) rfl)⟩, by decide, cm_M_plan.2.2.2.1, cm_M_plan.2.2.2.2, ⟨_, rfl, rfl⟩⟩
theorem cs_W_87 : pj_cV "WaverTaxLaw" 87 Y_T_planFirst 2 10 := ⟨⟨cm_T_planFirst.1, cm_T_planFirst.2.1, cm_T_planFirst.2.2.1, Or.inl (pj_mem 1005 (by decide +kernel) rfl)⟩, by decide, cm_T_planFirst.2.2.2.1, cm_T_planFirst.2.2.2.2, ⟨_, rfl, rfl⟩⟩
theorem cs_W_90 : pj_cV "WaverTaxLaw" 90 Y_M_planFirst 2 12 := ⟨⟨cm_M_planFirst.1, cm_M_planFirst.2.1, cm_M_planFirst.2.2.1, Or.inl (pj_mem 1928 (by decide +kernel) rfl)⟩, by decide, cm_M_planFirst.2.2.2.1, cm_M_planFirst.2.2.2.2, ⟨_, rfl, rfl⟩⟩
theorem cs_W_91 : pj_cV "WaverTaxLaw" 91 Y_T_stays 3 10 := ⟨⟨cm_T_stays.1, cm_T_stays.2.1, cm_T_stays.2.2.1, Or.inl (pj_mem 1013 (by decide +kernel) rfl)⟩, by decide, cm_T_stays.2.2.2.1, cm_T_stays.2.2.2.2, ⟨_, rfl, rfl⟩⟩
theorem cs_W_94 : pj_cV "WaverTaxLaw" 94 Y_M_stays 3 12 := ⟨⟨cm_M_stays.1, cm_M_stays.2.1, cm_M_stays.2.2.1, Or.inl (pj_mem 1932 (by decide +kernel) rfl)⟩, by decide, cm_M_stays.2.2.2.1, cm_M_stays.2.2.2.2, ⟨_, rfl, rfl⟩⟩
theorem cs_W_95 : pj_cV "WaverTaxLaw" 95 Y_T_planBy 4 10 := ⟨⟨cm_T_planBy.1, cm_T_planBy.2.1, cm_T_planBy.2.2.1, Or.inl (pj_mem 1023 (by decide +kernel) rfl)⟩, by decide, cm_T_planBy.2.2.2.1, cm_T_planBy.2.2.2.2, ⟨_, rfl, rfl⟩⟩
theorem cs_W_99 : pj_cV "WaverTaxLaw" 99 Y_M_planBy 4 12 := ⟨⟨cm_M_planBy.1, cm_M_planBy.2.1, cm_M_planBy.2.2.1, Or.inl (pj_mem 1936 (by decide +kernel) rfl)⟩, by decide, cm_M_planBy.2.2.2.1, cm_M_planBy.2.2.2.2, ⟨_, rfl, rfl⟩⟩
theorem wd_1381 : (Jvm.Cond.classLink "WaverTaxLaw" (16 : Nat) "WaverTaxModel") ∈ pj_ws := pj_mem 1381 (by decide +kernel) rfl
theorem wd_155 : (Jvm.Cond.classLink "WaverTaxLaw" (8 : Nat) "WaverTax") ∈ pj_ws := pj_mem 155 (by decide +kernel) rfl
theorem wd_130 : (Jvm.Cond.initialized "WaverTax") ∈ pj_ws := pj_mem 130 (by decide +kernel) rfl
theorem wd_141 : (Jvm.Cond.initialized "WaverTaxModel") ∈ pj_ws := pj_mem 141 (by decide +kernel) rfl
theorem wd_156 : (Jvm.Cond.instantiable "WaverTax" (15 : Nat)) ∈ pj_ws := pj_mem 156 (by decide +kernel) rfl
theorem wd_1382 : (Jvm.Cond.instantiable "WaverTaxModel" (32 : Nat)) ∈ pj_ws := pj_mem 1382 (by decide +kernel) rfl
theorem d_W_law_0 : decode Y_W_law.2.1 0 = .ok (.new 8, 3) := by decide +kernel
theorem d_W_law_3 : decode Y_W_law.2.1 3 = .ok (.dup, 1) := by decide +kernel
theorem d_W_law_4 : decode Y_W_law.2.1 4 = .ok (.invokespecial 15, 3) := by decide +kernel
theorem d_W_law_7 : decode Y_W_law.2.1 7 = .ok (.astore_n 1, 1) := by decide +kernel
theorem d_W_law_8 : decode Y_W_law.2.1 8 = .ok (.new 16, 3) := by decide +kernel
theorem d_W_law_11 : decode Y_W_law.2.1 11 = .ok (.dup, 1) := by decide +kernel
theorem d_W_law_12 : decode Y_W_law.2.1 12 = .ok (.invokespecial 18, 3) := by decide +kernel
theorem d_W_law_15 : decode Y_W_law.2.1 15 = .ok (.astore_n 2, 1) := by decide +kernel
theorem d_W_law_16 : decode Y_W_law.2.1 16 = .ok (.iconst 1, 1) := by decide +kernel
theorem d_W_law_17 : decode Y_W_law.2.1 17 = .ok (.newarray .long, 2) := by decide +kernel
theorem d_W_law_19 : decode Y_W_law.2.1 19 = .ok (.astore_n 3, 1) := by decide +kernel
theorem d_W_law_20 : decode Y_W_law.2.1 20 = .ok (.iconst 0, 1) := by decide +kernel
theorem d_W_law_21 : decode Y_W_law.2.1 21 = .ok (.istore 4, 2) := by decide +kernel
theorem d_W_law_23 : decode Y_W_law.2.1 23 = .ok (.iload 4, 2) := by decide +kernel
theorem d_W_law_25 : decode Y_W_law.2.1 25 = .ok (.aload_n 0, 1) := by decide +kernel
theorem d_W_law_26 : decode Y_W_law.2.1 26 = .ok (.arraylength, 1) := by decide +kernel
theorem d_W_law_27 : decode Y_W_law.2.1 27 = .ok (.bipush 6, 2) := by decide +kernel
theorem d_W_law_29 : decode Y_W_law.2.1 29 = .ok (.isub, 1) := by decide +kernel
theorem d_W_law_30 : decode Y_W_law.2.1 30 = .ok (.if_icmp .gt 1819, 3) := by decide +kernel
theorem d_W_law_33 : decode Y_W_law.2.1 33 = .ok (.aload_n 0, 1) := by decide +kernel
theorem d_W_law_34 : decode Y_W_law.2.1 34 = .ok (.iload 4, 2) := by decide +kernel
theorem d_W_law_36 : decode Y_W_law.2.1 36 = .ok (.iaload, 1) := by decide +kernel
theorem d_W_law_37 : decode Y_W_law.2.1 37 = .ok (.bipush 63, 2) := by decide +kernel
theorem d_W_law_39 : decode Y_W_law.2.1 39 = .ok (.iand, 1) := by decide +kernel
theorem d_W_law_40 : decode Y_W_law.2.1 40 = .ok (.tableswitch 1803 0 52 #[228, 301, 326, 339, 352, 389, 426, 463, 500, 525, 538, 563, 576, 601, 614, 627, 693, 730, 796, 874, 887, 900, 925, 950, 963, 988, 1013, 1026, 1051, 1076, 1101, 1126, 1139, 1152, 1165, 1190, 1215, 1228, 1253, 1374, 1411, 1448, 1485, 1534, 1571, 1608, 1633, 1658, 1671, 1684, 1709, 1765, 1790], 228) := by decide +kernel
theorem d_W_law_268 : decode Y_W_law.2.1 268 = .ok (.aload_n 1, 1) := by decide +kernel
theorem d_W_law_269 : decode Y_W_law.2.1 269 = .ok (.aload_n 0, 1) := by decide +kernel
theorem d_W_law_270 : decode Y_W_law.2.1 270 = .ok (.iload 4, 2) := by decide +kernel
theorem d_W_law_272 : decode Y_W_law.2.1 272 = .ok (.iconst 1, 1) := by decide +kernel
theorem d_W_law_273 : decode Y_W_law.2.1 273 = .ok (.iadd, 1) := by decide +kernel
theorem d_W_law_274 : decode Y_W_law.2.1 274 = .ok (.iaload, 1) := by decide +kernel
theorem d_W_law_275 : decode Y_W_law.2.1 275 = .ok (.aload_n 0, 1) := by decide +kernel
theorem d_W_law_276 : decode Y_W_law.2.1 276 = .ok (.iload 4, 2) := by decide +kernel
theorem d_W_law_278 : decode Y_W_law.2.1 278 = .ok (.iconst 2, 1) := by decide +kernel
theorem d_W_law_279 : decode Y_W_law.2.1 279 = .ok (.iadd, 1) := by decide +kernel
theorem d_W_law_280 : decode Y_W_law.2.1 280 = .ok (.iaload, 1) := by decide +kernel
theorem d_W_law_281 : decode Y_W_law.2.1 281 = .ok (.aload_n 0, 1) := by decide +kernel
theorem d_W_law_282 : decode Y_W_law.2.1 282 = .ok (.iload 4, 2) := by decide +kernel
theorem d_W_law_284 : decode Y_W_law.2.1 284 = .ok (.iconst 3, 1) := by decide +kernel
theorem d_W_law_285 : decode Y_W_law.2.1 285 = .ok (.iadd, 1) := by decide +kernel
theorem d_W_law_286 : decode Y_W_law.2.1 286 = .ok (.iaload, 1) := by decide +kernel
theorem d_W_law_287 : decode Y_W_law.2.1 287 = .ok (.aload_n 0, 1) := by decide +kernel
theorem d_W_law_288 : decode Y_W_law.2.1 288 = .ok (.iload 4, 2) := by decide +kernel
theorem d_W_law_290 : decode Y_W_law.2.1 290 = .ok (.iconst 4, 1) := by decide +kernel
theorem d_W_law_291 : decode Y_W_law.2.1 291 = .ok (.iadd, 1) := by decide +kernel
theorem d_W_law_292 : decode Y_W_law.2.1 292 = .ok (.iaload, 1) := by decide +kernel
theorem d_W_law_293 : decode Y_W_law.2.1 293 = .ok (.aload_n 0, 1) := by decide +kernel
theorem d_W_law_294 : decode Y_W_law.2.1 294 = .ok (.iload 4, 2) := by decide +kernel
theorem d_W_law_296 : decode Y_W_law.2.1 296 = .ok (.iconst 5, 1) := by decide +kernel
theorem d_W_law_297 : decode Y_W_law.2.1 297 = .ok (.iadd, 1) := by decide +kernel
theorem d_W_law_298 : decode Y_W_law.2.1 298 = .ok (.iaload, 1) := by decide +kernel
theorem d_W_law_299 : decode Y_W_law.2.1 299 = .ok (.invokevirtual 19, 3) := by decide +kernel
theorem d_W_law_302 : decode Y_W_law.2.1 302 = .ok (.aload_n 2, 1) := by decide +kernel
theorem d_W_law_303 : decode Y_W_law.2.1 303 = .ok (.aload_n 0, 1) := by decide +kernel
theorem d_W_law_304 : decode Y_W_law.2.1 304 = .ok (.iload 4, 2) := by decide +kernel
theorem d_W_law_306 : decode Y_W_law.2.1 306 = .ok (.iconst 1, 1) := by decide +kernel
theorem d_W_law_307 : decode Y_W_law.2.1 307 = .ok (.iadd, 1) := by decide +kernel
theorem d_W_law_308 : decode Y_W_law.2.1 308 = .ok (.iaload, 1) := by decide +kernel
theorem d_W_law_309 : decode Y_W_law.2.1 309 = .ok (.aload_n 0, 1) := by decide +kernel
theorem d_W_law_310 : decode Y_W_law.2.1 310 = .ok (.iload 4, 2) := by decide +kernel
theorem d_W_law_312 : decode Y_W_law.2.1 312 = .ok (.iconst 2, 1) := by decide +kernel
theorem d_W_law_313 : decode Y_W_law.2.1 313 = .ok (.iadd, 1) := by decide +kernel
theorem d_W_law_314 : decode Y_W_law.2.1 314 = .ok (.iaload, 1) := by decide +kernel
theorem d_W_law_315 : decode Y_W_law.2.1 315 = .ok (.aload_n 0, 1) := by decide +kernel
theorem d_W_law_316 : decode Y_W_law.2.1 316 = .ok (.iload 4, 2) := by decide +kernel
theorem d_W_law_318 : decode Y_W_law.2.1 318 = .ok (.iconst 3, 1) := by decide +kernel
theorem d_W_law_319 : decode Y_W_law.2.1 319 = .ok (.iadd, 1) := by decide +kernel
theorem d_W_law_320 : decode Y_W_law.2.1 320 = .ok (.iaload, 1) := by decide +kernel
theorem d_W_law_321 : decode Y_W_law.2.1 321 = .ok (.aload_n 0, 1) := by decide +kernel
theorem d_W_law_322 : decode Y_W_law.2.1 322 = .ok (.iload 4, 2) := by decide +kernel
theorem d_W_law_324 : decode Y_W_law.2.1 324 = .ok (.iconst 4, 1) := by decide +kernel
theorem d_W_law_325 : decode Y_W_law.2.1 325 = .ok (.iadd, 1) := by decide +kernel
theorem d_W_law_326 : decode Y_W_law.2.1 326 = .ok (.iaload, 1) := by decide +kernel
theorem d_W_law_327 : decode Y_W_law.2.1 327 = .ok (.aload_n 0, 1) := by decide +kernel
theorem d_W_law_328 : decode Y_W_law.2.1 328 = .ok (.iload 4, 2) := by decide +kernel
theorem d_W_law_330 : decode Y_W_law.2.1 330 = .ok (.iconst 5, 1) := by decide +kernel
theorem d_W_law_331 : decode Y_W_law.2.1 331 = .ok (.iadd, 1) := by decide +kernel
theorem d_W_law_332 : decode Y_W_law.2.1 332 = .ok (.iaload, 1) := by decide +kernel
theorem d_W_law_333 : decode Y_W_law.2.1 333 = .ok (.invokevirtual 23, 3) := by decide +kernel
theorem d_W_law_336 : decode Y_W_law.2.1 336 = .ok (.if_icmp .eq 1507, 3) := by decide +kernel
theorem d_W_law_341 : decode Y_W_law.2.1 341 = .ok (.aload_n 1, 1) := by decide +kernel
theorem d_W_law_342 : decode Y_W_law.2.1 342 = .ok (.aload_n 0, 1) := by decide +kernel
theorem d_W_law_343 : decode Y_W_law.2.1 343 = .ok (.iload 4, 2) := by decide +kernel
theorem d_W_law_345 : decode Y_W_law.2.1 345 = .ok (.iconst 1, 1) := by decide +kernel
theorem d_W_law_346 : decode Y_W_law.2.1 346 = .ok (.iadd, 1) := by decide +kernel
theorem d_W_law_347 : decode Y_W_law.2.1 347 = .ok (.iaload, 1) := by decide +kernel
theorem d_W_law_348 : decode Y_W_law.2.1 348 = .ok (.invokevirtual 24, 3) := by decide +kernel
theorem d_W_law_351 : decode Y_W_law.2.1 351 = .ok (.aload_n 2, 1) := by decide +kernel
theorem d_W_law_352 : decode Y_W_law.2.1 352 = .ok (.aload_n 0, 1) := by decide +kernel
theorem d_W_law_353 : decode Y_W_law.2.1 353 = .ok (.iload 4, 2) := by decide +kernel
theorem d_W_law_355 : decode Y_W_law.2.1 355 = .ok (.iconst 1, 1) := by decide +kernel
theorem d_W_law_356 : decode Y_W_law.2.1 356 = .ok (.iadd, 1) := by decide +kernel
theorem d_W_law_357 : decode Y_W_law.2.1 357 = .ok (.iaload, 1) := by decide +kernel
theorem d_W_law_358 : decode Y_W_law.2.1 358 = .ok (.invokevirtual 27, 3) := by decide +kernel
theorem d_W_law_361 : decode Y_W_law.2.1 361 = .ok (.if_icmp .eq 1482, 3) := by decide +kernel
theorem d_W_law_366 : decode Y_W_law.2.1 366 = .ok (.aload_n 1, 1) := by decide +kernel
theorem d_W_law_367 : decode Y_W_law.2.1 367 = .ok (.invokevirtual 28, 3) := by decide +kernel
theorem d_W_law_370 : decode Y_W_law.2.1 370 = .ok (.aload_n 2, 1) := by decide +kernel
theorem d_W_law_371 : decode Y_W_law.2.1 371 = .ok (.invokevirtual 32, 3) := by decide +kernel
theorem d_W_law_374 : decode Y_W_law.2.1 374 = .ok (.if_icmp .eq 1469, 3) := by decide +kernel
theorem d_W_law_379 : decode Y_W_law.2.1 379 = .ok (.aload_n 1, 1) := by decide +kernel
theorem d_W_law_380 : decode Y_W_law.2.1 380 = .ok (.invokevirtual 33, 3) := by decide +kernel
theorem d_W_law_383 : decode Y_W_law.2.1 383 = .ok (.aload_n 2, 1) := by decide +kernel
theorem d_W_law_384 : decode Y_W_law.2.1 384 = .ok (.invokevirtual 36, 3) := by decide +kernel
theorem d_W_law_387 : decode Y_W_law.2.1 387 = .ok (.if_icmp .eq 1456, 3) := by decide +kernel
theorem d_W_law_392 : decode Y_W_law.2.1 392 = .ok (.aload_n 1, 1) := by decide +kernel
theorem d_W_law_393 : decode Y_W_law.2.1 393 = .ok (.aload_n 0, 1) := by decide +kernel
theorem d_W_law_394 : decode Y_W_law.2.1 394 = .ok (.iload 4, 2) := by decide +kernel
theorem d_W_law_396 : decode Y_W_law.2.1 396 = .ok (.iconst 1, 1) := by decide +kernel
theorem d_W_law_397 : decode Y_W_law.2.1 397 = .ok (.iadd, 1) := by decide +kernel
theorem d_W_law_398 : decode Y_W_law.2.1 398 = .ok (.iaload, 1) := by decide +kernel
theorem d_W_law_399 : decode Y_W_law.2.1 399 = .ok (.aload_n 0, 1) := by decide +kernel
theorem d_W_law_400 : decode Y_W_law.2.1 400 = .ok (.iload 4, 2) := by decide +kernel
theorem d_W_law_402 : decode Y_W_law.2.1 402 = .ok (.iconst 2, 1) := by decide +kernel
theorem d_W_law_403 : decode Y_W_law.2.1 403 = .ok (.iadd, 1) := by decide +kernel
theorem d_W_law_404 : decode Y_W_law.2.1 404 = .ok (.iaload, 1) := by decide +kernel
theorem d_W_law_405 : decode Y_W_law.2.1 405 = .ok (.invokevirtual 37, 3) := by decide +kernel
theorem d_W_law_408 : decode Y_W_law.2.1 408 = .ok (.aload_n 2, 1) := by decide +kernel
theorem d_W_law_409 : decode Y_W_law.2.1 409 = .ok (.aload_n 0, 1) := by decide +kernel
theorem d_W_law_410 : decode Y_W_law.2.1 410 = .ok (.iload 4, 2) := by decide +kernel
theorem d_W_law_412 : decode Y_W_law.2.1 412 = .ok (.iconst 1, 1) := by decide +kernel
theorem d_W_law_413 : decode Y_W_law.2.1 413 = .ok (.iadd, 1) := by decide +kernel
theorem d_W_law_414 : decode Y_W_law.2.1 414 = .ok (.iaload, 1) := by decide +kernel
theorem d_W_law_415 : decode Y_W_law.2.1 415 = .ok (.aload_n 0, 1) := by decide +kernel
theorem d_W_law_416 : decode Y_W_law.2.1 416 = .ok (.iload 4, 2) := by decide +kernel
theorem d_W_law_418 : decode Y_W_law.2.1 418 = .ok (.iconst 2, 1) := by decide +kernel
theorem d_W_law_419 : decode Y_W_law.2.1 419 = .ok (.iadd, 1) := by decide +kernel
theorem d_W_law_420 : decode Y_W_law.2.1 420 = .ok (.iaload, 1) := by decide +kernel
theorem d_W_law_421 : decode Y_W_law.2.1 421 = .ok (.invokevirtual 41, 3) := by decide +kernel
theorem d_W_law_424 : decode Y_W_law.2.1 424 = .ok (.if_icmp .eq 1419, 3) := by decide +kernel
theorem d_W_law_429 : decode Y_W_law.2.1 429 = .ok (.aload_n 1, 1) := by decide +kernel
theorem d_W_law_430 : decode Y_W_law.2.1 430 = .ok (.aload_n 0, 1) := by decide +kernel
theorem d_W_law_431 : decode Y_W_law.2.1 431 = .ok (.iload 4, 2) := by decide +kernel
theorem d_W_law_433 : decode Y_W_law.2.1 433 = .ok (.iconst 1, 1) := by decide +kernel
theorem d_W_law_434 : decode Y_W_law.2.1 434 = .ok (.iadd, 1) := by decide +kernel
theorem d_W_law_435 : decode Y_W_law.2.1 435 = .ok (.iaload, 1) := by decide +kernel
theorem d_W_law_436 : decode Y_W_law.2.1 436 = .ok (.aload_n 0, 1) := by decide +kernel
theorem d_W_law_437 : decode Y_W_law.2.1 437 = .ok (.iload 4, 2) := by decide +kernel
theorem d_W_law_439 : decode Y_W_law.2.1 439 = .ok (.iconst 2, 1) := by decide +kernel
theorem d_W_law_440 : decode Y_W_law.2.1 440 = .ok (.iadd, 1) := by decide +kernel
theorem d_W_law_441 : decode Y_W_law.2.1 441 = .ok (.iaload, 1) := by decide +kernel
theorem d_W_law_442 : decode Y_W_law.2.1 442 = .ok (.invokevirtual 42, 3) := by decide +kernel
theorem d_W_law_445 : decode Y_W_law.2.1 445 = .ok (.aload_n 2, 1) := by decide +kernel
theorem d_W_law_446 : decode Y_W_law.2.1 446 = .ok (.aload_n 0, 1) := by decide +kernel
theorem d_W_law_447 : decode Y_W_law.2.1 447 = .ok (.iload 4, 2) := by decide +kernel
theorem d_W_law_449 : decode Y_W_law.2.1 449 = .ok (.iconst 1, 1) := by decide +kernel
theorem d_W_law_450 : decode Y_W_law.2.1 450 = .ok (.iadd, 1) := by decide +kernel
theorem d_W_law_451 : decode Y_W_law.2.1 451 = .ok (.iaload, 1) := by decide +kernel
theorem d_W_law_452 : decode Y_W_law.2.1 452 = .ok (.aload_n 0, 1) := by decide +kernel
theorem d_W_law_453 : decode Y_W_law.2.1 453 = .ok (.iload 4, 2) := by decide +kernel
theorem d_W_law_455 : decode Y_W_law.2.1 455 = .ok (.iconst 2, 1) := by decide +kernel
theorem d_W_law_456 : decode Y_W_law.2.1 456 = .ok (.iadd, 1) := by decide +kernel
theorem d_W_law_457 : decode Y_W_law.2.1 457 = .ok (.iaload, 1) := by decide +kernel
theorem d_W_law_458 : decode Y_W_law.2.1 458 = .ok (.invokevirtual 45, 3) := by decide +kernel
theorem d_W_law_461 : decode Y_W_law.2.1 461 = .ok (.if_icmp .eq 1382, 3) := by decide +kernel
theorem d_W_law_466 : decode Y_W_law.2.1 466 = .ok (.aload_n 1, 1) := by decide +kernel
theorem d_W_law_467 : decode Y_W_law.2.1 467 = .ok (.aload_n 0, 1) := by decide +kernel
theorem d_W_law_468 : decode Y_W_law.2.1 468 = .ok (.iload 4, 2) := by decide +kernel
theorem d_W_law_470 : decode Y_W_law.2.1 470 = .ok (.iconst 1, 1) := by decide +kernel
theorem d_W_law_471 : decode Y_W_law.2.1 471 = .ok (.iadd, 1) := by decide +kernel
theorem d_W_law_472 : decode Y_W_law.2.1 472 = .ok (.iaload, 1) := by decide +kernel
theorem d_W_law_473 : decode Y_W_law.2.1 473 = .ok (.aload_n 0, 1) := by decide +kernel
theorem d_W_law_474 : decode Y_W_law.2.1 474 = .ok (.iload 4, 2) := by decide +kernel
theorem d_W_law_476 : decode Y_W_law.2.1 476 = .ok (.iconst 2, 1) := by decide +kernel
theorem d_W_law_477 : decode Y_W_law.2.1 477 = .ok (.iadd, 1) := by decide +kernel
theorem d_W_law_478 : decode Y_W_law.2.1 478 = .ok (.iaload, 1) := by decide +kernel
theorem d_W_law_479 : decode Y_W_law.2.1 479 = .ok (.invokevirtual 46, 3) := by decide +kernel
theorem d_W_law_482 : decode Y_W_law.2.1 482 = .ok (.aload_n 2, 1) := by decide +kernel
theorem d_W_law_483 : decode Y_W_law.2.1 483 = .ok (.aload_n 0, 1) := by decide +kernel
theorem d_W_law_484 : decode Y_W_law.2.1 484 = .ok (.iload 4, 2) := by decide +kernel
theorem d_W_law_486 : decode Y_W_law.2.1 486 = .ok (.iconst 1, 1) := by decide +kernel
theorem d_W_law_487 : decode Y_W_law.2.1 487 = .ok (.iadd, 1) := by decide +kernel
theorem d_W_law_488 : decode Y_W_law.2.1 488 = .ok (.iaload, 1) := by decide +kernel
theorem d_W_law_489 : decode Y_W_law.2.1 489 = .ok (.aload_n 0, 1) := by decide +kernel
theorem d_W_law_490 : decode Y_W_law.2.1 490 = .ok (.iload 4, 2) := by decide +kernel
theorem d_W_law_492 : decode Y_W_law.2.1 492 = .ok (.iconst 2, 1) := by decide +kernel
theorem d_W_law_493 : decode Y_W_law.2.1 493 = .ok (.iadd, 1) := by decide +kernel
theorem d_W_law_494 : decode Y_W_law.2.1 494 = .ok (.iaload, 1) := by decide +kernel
theorem d_W_law_495 : decode Y_W_law.2.1 495 = .ok (.invokevirtual 49, 3) := by decide +kernel
theorem d_W_law_498 : decode Y_W_law.2.1 498 = .ok (.if_icmp .eq 1345, 3) := by decide +kernel
theorem d_W_law_503 : decode Y_W_law.2.1 503 = .ok (.aload_n 1, 1) := by decide +kernel
theorem d_W_law_504 : decode Y_W_law.2.1 504 = .ok (.aload_n 0, 1) := by decide +kernel
theorem d_W_law_505 : decode Y_W_law.2.1 505 = .ok (.iload 4, 2) := by decide +kernel
theorem d_W_law_507 : decode Y_W_law.2.1 507 = .ok (.iconst 1, 1) := by decide +kernel
theorem d_W_law_508 : decode Y_W_law.2.1 508 = .ok (.iadd, 1) := by decide +kernel
theorem d_W_law_509 : decode Y_W_law.2.1 509 = .ok (.iaload, 1) := by decide +kernel
theorem d_W_law_510 : decode Y_W_law.2.1 510 = .ok (.aload_n 0, 1) := by decide +kernel
theorem d_W_law_511 : decode Y_W_law.2.1 511 = .ok (.iload 4, 2) := by decide +kernel
theorem d_W_law_513 : decode Y_W_law.2.1 513 = .ok (.iconst 2, 1) := by decide +kernel
theorem d_W_law_514 : decode Y_W_law.2.1 514 = .ok (.iadd, 1) := by decide +kernel
theorem d_W_law_515 : decode Y_W_law.2.1 515 = .ok (.iaload, 1) := by decide +kernel
theorem d_W_law_516 : decode Y_W_law.2.1 516 = .ok (.invokevirtual 50, 3) := by decide +kernel
theorem d_W_law_519 : decode Y_W_law.2.1 519 = .ok (.aload_n 2, 1) := by decide +kernel
theorem d_W_law_520 : decode Y_W_law.2.1 520 = .ok (.aload_n 0, 1) := by decide +kernel
theorem d_W_law_521 : decode Y_W_law.2.1 521 = .ok (.iload 4, 2) := by decide +kernel
theorem d_W_law_523 : decode Y_W_law.2.1 523 = .ok (.iconst 1, 1) := by decide +kernel
theorem d_W_law_524 : decode Y_W_law.2.1 524 = .ok (.iadd, 1) := by decide +kernel
theorem d_W_law_525 : decode Y_W_law.2.1 525 = .ok (.iaload, 1) := by decide +kernel
theorem d_W_law_526 : decode Y_W_law.2.1 526 = .ok (.aload_n 0, 1) := by decide +kernel
theorem d_W_law_527 : decode Y_W_law.2.1 527 = .ok (.iload 4, 2) := by decide +kernel
theorem d_W_law_529 : decode Y_W_law.2.1 529 = .ok (.iconst 2, 1) := by decide +kernel
theorem d_W_law_530 : decode Y_W_law.2.1 530 = .ok (.iadd, 1) := by decide +kernel
theorem d_W_law_531 : decode Y_W_law.2.1 531 = .ok (.iaload, 1) := by decide +kernel
theorem d_W_law_532 : decode Y_W_law.2.1 532 = .ok (.invokevirtual 53, 3) := by decide +kernel
theorem d_W_law_535 : decode Y_W_law.2.1 535 = .ok (.if_icmp .eq 1308, 3) := by decide +kernel
theorem d_W_law_540 : decode Y_W_law.2.1 540 = .ok (.aload_n 1, 1) := by decide +kernel
theorem d_W_law_541 : decode Y_W_law.2.1 541 = .ok (.aload_n 0, 1) := by decide +kernel
theorem d_W_law_542 : decode Y_W_law.2.1 542 = .ok (.iload 4, 2) := by decide +kernel
theorem d_W_law_544 : decode Y_W_law.2.1 544 = .ok (.iconst 1, 1) := by decide +kernel
theorem d_W_law_545 : decode Y_W_law.2.1 545 = .ok (.iadd, 1) := by decide +kernel
theorem d_W_law_546 : decode Y_W_law.2.1 546 = .ok (.iaload, 1) := by decide +kernel
theorem d_W_law_547 : decode Y_W_law.2.1 547 = .ok (.invokevirtual 54, 3) := by decide +kernel
theorem d_W_law_550 : decode Y_W_law.2.1 550 = .ok (.aload_n 2, 1) := by decide +kernel
theorem d_W_law_551 : decode Y_W_law.2.1 551 = .ok (.aload_n 0, 1) := by decide +kernel
theorem d_W_law_552 : decode Y_W_law.2.1 552 = .ok (.iload 4, 2) := by decide +kernel
theorem d_W_law_554 : decode Y_W_law.2.1 554 = .ok (.iconst 1, 1) := by decide +kernel
theorem d_W_law_555 : decode Y_W_law.2.1 555 = .ok (.iadd, 1) := by decide +kernel
theorem d_W_law_556 : decode Y_W_law.2.1 556 = .ok (.iaload, 1) := by decide +kernel
theorem d_W_law_557 : decode Y_W_law.2.1 557 = .ok (.invokevirtual 57, 3) := by decide +kernel
theorem d_W_law_560 : decode Y_W_law.2.1 560 = .ok (.if_icmp .eq 1283, 3) := by decide +kernel
theorem d_W_law_565 : decode Y_W_law.2.1 565 = .ok (.aload_n 1, 1) := by decide +kernel
theorem d_W_law_566 : decode Y_W_law.2.1 566 = .ok (.invokevirtual 58, 3) := by decide +kernel
theorem d_W_law_569 : decode Y_W_law.2.1 569 = .ok (.aload_n 2, 1) := by decide +kernel
theorem d_W_law_570 : decode Y_W_law.2.1 570 = .ok (.invokevirtual 61, 3) := by decide +kernel
theorem d_W_law_573 : decode Y_W_law.2.1 573 = .ok (.if_icmp .eq 1270, 3) := by decide +kernel
theorem d_W_law_578 : decode Y_W_law.2.1 578 = .ok (.aload_n 1, 1) := by decide +kernel
theorem d_W_law_579 : decode Y_W_law.2.1 579 = .ok (.aload_n 0, 1) := by decide +kernel
theorem d_W_law_580 : decode Y_W_law.2.1 580 = .ok (.iload 4, 2) := by decide +kernel
theorem d_W_law_582 : decode Y_W_law.2.1 582 = .ok (.iconst 1, 1) := by decide +kernel
theorem d_W_law_583 : decode Y_W_law.2.1 583 = .ok (.iadd, 1) := by decide +kernel
theorem d_W_law_584 : decode Y_W_law.2.1 584 = .ok (.iaload, 1) := by decide +kernel
theorem d_W_law_585 : decode Y_W_law.2.1 585 = .ok (.invokevirtual 62, 3) := by decide +kernel
theorem d_W_law_588 : decode Y_W_law.2.1 588 = .ok (.aload_n 2, 1) := by decide +kernel
theorem d_W_law_589 : decode Y_W_law.2.1 589 = .ok (.aload_n 0, 1) := by decide +kernel
theorem d_W_law_590 : decode Y_W_law.2.1 590 = .ok (.iload 4, 2) := by decide +kernel
theorem d_W_law_592 : decode Y_W_law.2.1 592 = .ok (.iconst 1, 1) := by decide +kernel
theorem d_W_law_593 : decode Y_W_law.2.1 593 = .ok (.iadd, 1) := by decide +kernel
theorem d_W_law_594 : decode Y_W_law.2.1 594 = .ok (.iaload, 1) := by decide +kernel
theorem d_W_law_595 : decode Y_W_law.2.1 595 = .ok (.invokevirtual 65, 3) := by decide +kernel
theorem d_W_law_598 : decode Y_W_law.2.1 598 = .ok (.if_icmp .eq 1245, 3) := by decide +kernel
theorem d_W_law_603 : decode Y_W_law.2.1 603 = .ok (.aload_n 1, 1) := by decide +kernel
theorem d_W_law_604 : decode Y_W_law.2.1 604 = .ok (.invokevirtual 66, 3) := by decide +kernel
theorem d_W_law_607 : decode Y_W_law.2.1 607 = .ok (.aload_n 2, 1) := by decide +kernel
theorem d_W_law_608 : decode Y_W_law.2.1 608 = .ok (.invokevirtual 69, 3) := by decide +kernel
theorem d_W_law_611 : decode Y_W_law.2.1 611 = .ok (.if_icmp .eq 1232, 3) := by decide +kernel
theorem d_W_law_616 : decode Y_W_law.2.1 616 = .ok (.aload_n 1, 1) := by decide +kernel
theorem d_W_law_617 : decode Y_W_law.2.1 617 = .ok (.aload_n 0, 1) := by decide +kernel
theorem d_W_law_618 : decode Y_W_law.2.1 618 = .ok (.iload 4, 2) := by decide +kernel
theorem d_W_law_620 : decode Y_W_law.2.1 620 = .ok (.iconst 1, 1) := by decide +kernel
theorem d_W_law_621 : decode Y_W_law.2.1 621 = .ok (.iadd, 1) := by decide +kernel
theorem d_W_law_622 : decode Y_W_law.2.1 622 = .ok (.iaload, 1) := by decide +kernel
theorem d_W_law_623 : decode Y_W_law.2.1 623 = .ok (.invokevirtual 70, 3) := by decide +kernel
theorem d_W_law_626 : decode Y_W_law.2.1 626 = .ok (.aload_n 2, 1) := by decide +kernel
theorem d_W_law_627 : decode Y_W_law.2.1 627 = .ok (.aload_n 0, 1) := by decide +kernel
theorem d_W_law_628 : decode Y_W_law.2.1 628 = .ok (.iload 4, 2) := by decide +kernel
theorem d_W_law_630 : decode Y_W_law.2.1 630 = .ok (.iconst 1, 1) := by decide +kernel
theorem d_W_law_631 : decode Y_W_law.2.1 631 = .ok (.iadd, 1) := by decide +kernel
theorem d_W_law_632 : decode Y_W_law.2.1 632 = .ok (.iaload, 1) := by decide +kernel
theorem d_W_law_633 : decode Y_W_law.2.1 633 = .ok (.invokevirtual 73, 3) := by decide +kernel
theorem d_W_law_636 : decode Y_W_law.2.1 636 = .ok (.if_icmp .eq 1207, 3) := by decide +kernel
theorem d_W_law_641 : decode Y_W_law.2.1 641 = .ok (.aload_n 1, 1) := by decide +kernel
theorem d_W_law_642 : decode Y_W_law.2.1 642 = .ok (.invokevirtual 74, 3) := by decide +kernel
theorem d_W_law_645 : decode Y_W_law.2.1 645 = .ok (.aload_n 2, 1) := by decide +kernel
theorem d_W_law_646 : decode Y_W_law.2.1 646 = .ok (.invokevirtual 77, 3) := by decide +kernel
theorem d_W_law_649 : decode Y_W_law.2.1 649 = .ok (.if_icmp .eq 1194, 3) := by decide +kernel
theorem d_W_law_654 : decode Y_W_law.2.1 654 = .ok (.aload_n 1, 1) := by decide +kernel
theorem d_W_law_655 : decode Y_W_law.2.1 655 = .ok (.invokevirtual 78, 3) := by decide +kernel
theorem d_W_law_658 : decode Y_W_law.2.1 658 = .ok (.aload_n 2, 1) := by decide +kernel
theorem d_W_law_659 : decode Y_W_law.2.1 659 = .ok (.invokevirtual 81, 3) := by decide +kernel
theorem d_W_law_662 : decode Y_W_law.2.1 662 = .ok (.if_icmp .eq 1181, 3) := by decide +kernel
theorem d_W_law_667 : decode Y_W_law.2.1 667 = .ok (.aload_n 1, 1) := by decide +kernel
theorem d_W_law_668 : decode Y_W_law.2.1 668 = .ok (.aload_n 0, 1) := by decide +kernel
theorem d_W_law_669 : decode Y_W_law.2.1 669 = .ok (.iload 4, 2) := by decide +kernel
theorem d_W_law_671 : decode Y_W_law.2.1 671 = .ok (.iconst 1, 1) := by decide +kernel
theorem d_W_law_672 : decode Y_W_law.2.1 672 = .ok (.iadd, 1) := by decide +kernel
theorem d_W_law_673 : decode Y_W_law.2.1 673 = .ok (.iaload, 1) := by decide +kernel
theorem d_W_law_674 : decode Y_W_law.2.1 674 = .ok (.aload_n 0, 1) := by decide +kernel
theorem d_W_law_675 : decode Y_W_law.2.1 675 = .ok (.iload 4, 2) := by decide +kernel
theorem d_W_law_677 : decode Y_W_law.2.1 677 = .ok (.iconst 2, 1) := by decide +kernel
theorem d_W_law_678 : decode Y_W_law.2.1 678 = .ok (.iadd, 1) := by decide +kernel
theorem d_W_law_679 : decode Y_W_law.2.1 679 = .ok (.iaload, 1) := by decide +kernel
theorem d_W_law_680 : decode Y_W_law.2.1 680 = .ok (.aload_n 0, 1) := by decide +kernel
theorem d_W_law_681 : decode Y_W_law.2.1 681 = .ok (.iload 4, 2) := by decide +kernel
theorem d_W_law_683 : decode Y_W_law.2.1 683 = .ok (.iconst 3, 1) := by decide +kernel
theorem d_W_law_684 : decode Y_W_law.2.1 684 = .ok (.iadd, 1) := by decide +kernel
theorem d_W_law_685 : decode Y_W_law.2.1 685 = .ok (.iaload, 1) := by decide +kernel
theorem d_W_law_686 : decode Y_W_law.2.1 686 = .ok (.ifCond .eq 7, 3) := by decide +kernel
theorem d_W_law_689 : decode Y_W_law.2.1 689 = .ok (.iconst 1, 1) := by decide +kernel
theorem d_W_law_690 : decode Y_W_law.2.1 690 = .ok (.goto 4, 3) := by decide +kernel
theorem d_W_law_693 : decode Y_W_law.2.1 693 = .ok (.iconst 0, 1) := by decide +kernel
theorem d_W_law_694 : decode Y_W_law.2.1 694 = .ok (.invokevirtual 82, 3) := by decide +kernel
theorem d_W_law_697 : decode Y_W_law.2.1 697 = .ok (.aload_n 2, 1) := by decide +kernel
theorem d_W_law_698 : decode Y_W_law.2.1 698 = .ok (.aload_n 0, 1) := by decide +kernel
theorem d_W_law_699 : decode Y_W_law.2.1 699 = .ok (.iload 4, 2) := by decide +kernel
theorem d_W_law_701 : decode Y_W_law.2.1 701 = .ok (.iconst 1, 1) := by decide +kernel
theorem d_W_law_702 : decode Y_W_law.2.1 702 = .ok (.iadd, 1) := by decide +kernel
theorem d_W_law_703 : decode Y_W_law.2.1 703 = .ok (.iaload, 1) := by decide +kernel
theorem d_W_law_704 : decode Y_W_law.2.1 704 = .ok (.aload_n 0, 1) := by decide +kernel
theorem d_W_law_705 : decode Y_W_law.2.1 705 = .ok (.iload 4, 2) := by decide +kernel
theorem d_W_law_707 : decode Y_W_law.2.1 707 = .ok (.iconst 2, 1) := by decide +kernel
theorem d_W_law_708 : decode Y_W_law.2.1 708 = .ok (.iadd, 1) := by decide +kernel
theorem d_W_law_709 : decode Y_W_law.2.1 709 = .ok (.iaload, 1) := by decide +kernel
theorem d_W_law_710 : decode Y_W_law.2.1 710 = .ok (.aload_n 0, 1) := by decide +kernel
theorem d_W_law_711 : decode Y_W_law.2.1 711 = .ok (.iload 4, 2) := by decide +kernel
theorem d_W_law_713 : decode Y_W_law.2.1 713 = .ok (.iconst 3, 1) := by decide +kernel
theorem d_W_law_714 : decode Y_W_law.2.1 714 = .ok (.iadd, 1) := by decide +kernel
theorem d_W_law_715 : decode Y_W_law.2.1 715 = .ok (.iaload, 1) := by decide +kernel
theorem d_W_law_716 : decode Y_W_law.2.1 716 = .ok (.ifCond .eq 7, 3) := by decide +kernel
theorem d_W_law_719 : decode Y_W_law.2.1 719 = .ok (.iconst 1, 1) := by decide +kernel
theorem d_W_law_720 : decode Y_W_law.2.1 720 = .ok (.goto 4, 3) := by decide +kernel
theorem d_W_law_723 : decode Y_W_law.2.1 723 = .ok (.iconst 0, 1) := by decide +kernel
theorem d_W_law_724 : decode Y_W_law.2.1 724 = .ok (.invokevirtual 86, 3) := by decide +kernel
theorem d_W_law_727 : decode Y_W_law.2.1 727 = .ok (.lcmp, 1) := by decide +kernel
theorem d_W_law_728 : decode Y_W_law.2.1 728 = .ok (.ifCond .eq 1115, 3) := by decide +kernel
theorem d_W_law_733 : decode Y_W_law.2.1 733 = .ok (.aload_n 1, 1) := by decide +kernel
theorem d_W_law_734 : decode Y_W_law.2.1 734 = .ok (.aload_n 0, 1) := by decide +kernel
theorem d_W_law_735 : decode Y_W_law.2.1 735 = .ok (.iload 4, 2) := by decide +kernel
theorem d_W_law_737 : decode Y_W_law.2.1 737 = .ok (.iconst 1, 1) := by decide +kernel
theorem d_W_law_738 : decode Y_W_law.2.1 738 = .ok (.iadd, 1) := by decide +kernel
theorem d_W_law_739 : decode Y_W_law.2.1 739 = .ok (.iaload, 1) := by decide +kernel
theorem d_W_law_740 : decode Y_W_law.2.1 740 = .ok (.aload_n 0, 1) := by decide +kernel
theorem d_W_law_741 : decode Y_W_law.2.1 741 = .ok (.iload 4, 2) := by decide +kernel
theorem d_W_law_743 : decode Y_W_law.2.1 743 = .ok (.iconst 2, 1) := by decide +kernel
theorem d_W_law_744 : decode Y_W_law.2.1 744 = .ok (.iadd, 1) := by decide +kernel
theorem d_W_law_745 : decode Y_W_law.2.1 745 = .ok (.iaload, 1) := by decide +kernel
theorem d_W_law_746 : decode Y_W_law.2.1 746 = .ok (.invokevirtual 87, 3) := by decide +kernel
theorem d_W_law_749 : decode Y_W_law.2.1 749 = .ok (.aload_n 2, 1) := by decide +kernel
theorem d_W_law_750 : decode Y_W_law.2.1 750 = .ok (.aload_n 0, 1) := by decide +kernel
theorem d_W_law_751 : decode Y_W_law.2.1 751 = .ok (.iload 4, 2) := by decide +kernel
theorem d_W_law_753 : decode Y_W_law.2.1 753 = .ok (.iconst 1, 1) := by decide +kernel
theorem d_W_law_754 : decode Y_W_law.2.1 754 = .ok (.iadd, 1) := by decide +kernel
theorem d_W_law_755 : decode Y_W_law.2.1 755 = .ok (.iaload, 1) := by decide +kernel
theorem d_W_law_756 : decode Y_W_law.2.1 756 = .ok (.aload_n 0, 1) := by decide +kernel
theorem d_W_law_757 : decode Y_W_law.2.1 757 = .ok (.iload 4, 2) := by decide +kernel
theorem d_W_law_759 : decode Y_W_law.2.1 759 = .ok (.iconst 2, 1) := by decide +kernel
theorem d_W_law_760 : decode Y_W_law.2.1 760 = .ok (.iadd, 1) := by decide +kernel
theorem d_W_law_761 : decode Y_W_law.2.1 761 = .ok (.iaload, 1) := by decide +kernel
theorem d_W_law_762 : decode Y_W_law.2.1 762 = .ok (.invokevirtual 90, 3) := by decide +kernel
theorem d_W_law_765 : decode Y_W_law.2.1 765 = .ok (.if_icmp .eq 1078, 3) := by decide +kernel
theorem d_W_law_770 : decode Y_W_law.2.1 770 = .ok (.aload_n 1, 1) := by decide +kernel
theorem d_W_law_771 : decode Y_W_law.2.1 771 = .ok (.aload_n 0, 1) := by decide +kernel
theorem d_W_law_772 : decode Y_W_law.2.1 772 = .ok (.iload 4, 2) := by decide +kernel
theorem d_W_law_774 : decode Y_W_law.2.1 774 = .ok (.iconst 1, 1) := by decide +kernel
theorem d_W_law_775 : decode Y_W_law.2.1 775 = .ok (.iadd, 1) := by decide +kernel
theorem d_W_law_776 : decode Y_W_law.2.1 776 = .ok (.iaload, 1) := by decide +kernel
theorem d_W_law_777 : decode Y_W_law.2.1 777 = .ok (.aload_n 0, 1) := by decide +kernel
theorem d_W_law_778 : decode Y_W_law.2.1 778 = .ok (.iload 4, 2) := by decide +kernel
theorem d_W_law_780 : decode Y_W_law.2.1 780 = .ok (.iconst 2, 1) := by decide +kernel
theorem d_W_law_781 : decode Y_W_law.2.1 781 = .ok (.iadd, 1) := by decide +kernel
theorem d_W_law_782 : decode Y_W_law.2.1 782 = .ok (.iaload, 1) := by decide +kernel
theorem d_W_law_783 : decode Y_W_law.2.1 783 = .ok (.aload_n 0, 1) := by decide +kernel
theorem d_W_law_784 : decode Y_W_law.2.1 784 = .ok (.iload 4, 2) := by decide +kernel
theorem d_W_law_786 : decode Y_W_law.2.1 786 = .ok (.iconst 3, 1) := by decide +kernel
theorem d_W_law_787 : decode Y_W_law.2.1 787 = .ok (.iadd, 1) := by decide +kernel
theorem d_W_law_788 : decode Y_W_law.2.1 788 = .ok (.iaload, 1) := by decide +kernel
theorem d_W_law_789 : decode Y_W_law.2.1 789 = .ok (.ifCond .eq 7, 3) := by decide +kernel
theorem d_W_law_792 : decode Y_W_law.2.1 792 = .ok (.iconst 1, 1) := by decide +kernel
theorem d_W_law_793 : decode Y_W_law.2.1 793 = .ok (.goto 4, 3) := by decide +kernel
theorem d_W_law_796 : decode Y_W_law.2.1 796 = .ok (.iconst 0, 1) := by decide +kernel
theorem d_W_law_797 : decode Y_W_law.2.1 797 = .ok (.invokevirtual 91, 3) := by decide +kernel
theorem d_W_law_800 : decode Y_W_law.2.1 800 = .ok (.aload_n 2, 1) := by decide +kernel
theorem d_W_law_801 : decode Y_W_law.2.1 801 = .ok (.aload_n 0, 1) := by decide +kernel
theorem d_W_law_802 : decode Y_W_law.2.1 802 = .ok (.iload 4, 2) := by decide +kernel
theorem d_W_law_804 : decode Y_W_law.2.1 804 = .ok (.iconst 1, 1) := by decide +kernel
theorem d_W_law_805 : decode Y_W_law.2.1 805 = .ok (.iadd, 1) := by decide +kernel
theorem d_W_law_806 : decode Y_W_law.2.1 806 = .ok (.iaload, 1) := by decide +kernel
theorem d_W_law_807 : decode Y_W_law.2.1 807 = .ok (.aload_n 0, 1) := by decide +kernel
theorem d_W_law_808 : decode Y_W_law.2.1 808 = .ok (.iload 4, 2) := by decide +kernel
theorem d_W_law_810 : decode Y_W_law.2.1 810 = .ok (.iconst 2, 1) := by decide +kernel
theorem d_W_law_811 : decode Y_W_law.2.1 811 = .ok (.iadd, 1) := by decide +kernel
theorem d_W_law_812 : decode Y_W_law.2.1 812 = .ok (.iaload, 1) := by decide +kernel
theorem d_W_law_813 : decode Y_W_law.2.1 813 = .ok (.aload_n 0, 1) := by decide +kernel
theorem d_W_law_814 : decode Y_W_law.2.1 814 = .ok (.iload 4, 2) := by decide +kernel
theorem d_W_law_816 : decode Y_W_law.2.1 816 = .ok (.iconst 3, 1) := by decide +kernel
theorem d_W_law_817 : decode Y_W_law.2.1 817 = .ok (.iadd, 1) := by decide +kernel
theorem d_W_law_818 : decode Y_W_law.2.1 818 = .ok (.iaload, 1) := by decide +kernel
theorem d_W_law_819 : decode Y_W_law.2.1 819 = .ok (.ifCond .eq 7, 3) := by decide +kernel
theorem d_W_law_822 : decode Y_W_law.2.1 822 = .ok (.iconst 1, 1) := by decide +kernel
theorem d_W_law_823 : decode Y_W_law.2.1 823 = .ok (.goto 4, 3) := by decide +kernel
theorem d_W_law_826 : decode Y_W_law.2.1 826 = .ok (.iconst 0, 1) := by decide +kernel
theorem d_W_law_827 : decode Y_W_law.2.1 827 = .ok (.invokevirtual 94, 3) := by decide +kernel
theorem d_W_law_830 : decode Y_W_law.2.1 830 = .ok (.lcmp, 1) := by decide +kernel
theorem d_W_law_831 : decode Y_W_law.2.1 831 = .ok (.ifCond .eq 1012, 3) := by decide +kernel
theorem d_W_law_836 : decode Y_W_law.2.1 836 = .ok (.aload_n 1, 1) := by decide +kernel
theorem d_W_law_837 : decode Y_W_law.2.1 837 = .ok (.aload_n 0, 1) := by decide +kernel
theorem d_W_law_838 : decode Y_W_law.2.1 838 = .ok (.iload 4, 2) := by decide +kernel
theorem d_W_law_840 : decode Y_W_law.2.1 840 = .ok (.iconst 1, 1) := by decide +kernel
theorem d_W_law_841 : decode Y_W_law.2.1 841 = .ok (.iadd, 1) := by decide +kernel
theorem d_W_law_842 : decode Y_W_law.2.1 842 = .ok (.iaload, 1) := by decide +kernel
theorem d_W_law_843 : decode Y_W_law.2.1 843 = .ok (.aload_n 0, 1) := by decide +kernel
theorem d_W_law_844 : decode Y_W_law.2.1 844 = .ok (.iload 4, 2) := by decide +kernel
theorem d_W_law_846 : decode Y_W_law.2.1 846 = .ok (.iconst 2, 1) := by decide +kernel
theorem d_W_law_847 : decode Y_W_law.2.1 847 = .ok (.iadd, 1) := by decide +kernel
theorem d_W_law_848 : decode Y_W_law.2.1 848 = .ok (.iaload, 1) := by decide +kernel
theorem d_W_law_849 : decode Y_W_law.2.1 849 = .ok (.aload_n 0, 1) := by decide +kernel
theorem d_W_law_850 : decode Y_W_law.2.1 850 = .ok (.iload 4, 2) := by decide +kernel
theorem d_W_law_852 : decode Y_W_law.2.1 852 = .ok (.iconst 3, 1) := by decide +kernel
theorem d_W_law_853 : decode Y_W_law.2.1 853 = .ok (.iadd, 1) := by decide +kernel
theorem d_W_law_854 : decode Y_W_law.2.1 854 = .ok (.iaload, 1) := by decide +kernel
theorem d_W_law_855 : decode Y_W_law.2.1 855 = .ok (.aload_n 0, 1) := by decide +kernel
theorem d_W_law_856 : decode Y_W_law.2.1 856 = .ok (.iload 4, 2) := by decide +kernel
theorem d_W_law_858 : decode Y_W_law.2.1 858 = .ok (.iconst 4, 1) := by decide +kernel
theorem d_W_law_859 : decode Y_W_law.2.1 859 = .ok (.iadd, 1) := by decide +kernel
theorem d_W_law_860 : decode Y_W_law.2.1 860 = .ok (.iaload, 1) := by decide +kernel
theorem d_W_law_861 : decode Y_W_law.2.1 861 = .ok (.ifCond .eq 7, 3) := by decide +kernel
theorem d_W_law_864 : decode Y_W_law.2.1 864 = .ok (.iconst 1, 1) := by decide +kernel
theorem d_W_law_865 : decode Y_W_law.2.1 865 = .ok (.goto 4, 3) := by decide +kernel
theorem d_W_law_868 : decode Y_W_law.2.1 868 = .ok (.iconst 0, 1) := by decide +kernel
theorem d_W_law_869 : decode Y_W_law.2.1 869 = .ok (.invokevirtual 95, 3) := by decide +kernel
theorem d_W_law_872 : decode Y_W_law.2.1 872 = .ok (.aload_n 2, 1) := by decide +kernel
theorem d_W_law_873 : decode Y_W_law.2.1 873 = .ok (.aload_n 0, 1) := by decide +kernel
theorem d_W_law_874 : decode Y_W_law.2.1 874 = .ok (.iload 4, 2) := by decide +kernel
theorem d_W_law_876 : decode Y_W_law.2.1 876 = .ok (.iconst 1, 1) := by decide +kernel
theorem d_W_law_877 : decode Y_W_law.2.1 877 = .ok (.iadd, 1) := by decide +kernel
theorem d_W_law_878 : decode Y_W_law.2.1 878 = .ok (.iaload, 1) := by decide +kernel
theorem d_W_law_879 : decode Y_W_law.2.1 879 = .ok (.aload_n 0, 1) := by decide +kernel
theorem d_W_law_880 : decode Y_W_law.2.1 880 = .ok (.iload 4, 2) := by decide +kernel
theorem d_W_law_882 : decode Y_W_law.2.1 882 = .ok (.iconst 2, 1) := by decide +kernel
theorem d_W_law_883 : decode Y_W_law.2.1 883 = .ok (.iadd, 1) := by decide +kernel
theorem d_W_law_884 : decode Y_W_law.2.1 884 = .ok (.iaload, 1) := by decide +kernel
theorem d_W_law_885 : decode Y_W_law.2.1 885 = .ok (.aload_n 0, 1) := by decide +kernel
theorem d_W_law_886 : decode Y_W_law.2.1 886 = .ok (.iload 4, 2) := by decide +kernel
theorem d_W_law_888 : decode Y_W_law.2.1 888 = .ok (.iconst 3, 1) := by decide +kernel
theorem d_W_law_889 : decode Y_W_law.2.1 889 = .ok (.iadd, 1) := by decide +kernel
theorem d_W_law_890 : decode Y_W_law.2.1 890 = .ok (.iaload, 1) := by decide +kernel
theorem d_W_law_891 : decode Y_W_law.2.1 891 = .ok (.aload_n 0, 1) := by decide +kernel
theorem d_W_law_892 : decode Y_W_law.2.1 892 = .ok (.iload 4, 2) := by decide +kernel
theorem d_W_law_894 : decode Y_W_law.2.1 894 = .ok (.iconst 4, 1) := by decide +kernel
theorem d_W_law_895 : decode Y_W_law.2.1 895 = .ok (.iadd, 1) := by decide +kernel
theorem d_W_law_896 : decode Y_W_law.2.1 896 = .ok (.iaload, 1) := by decide +kernel
theorem d_W_law_897 : decode Y_W_law.2.1 897 = .ok (.ifCond .eq 7, 3) := by decide +kernel
theorem d_W_law_900 : decode Y_W_law.2.1 900 = .ok (.iconst 1, 1) := by decide +kernel
theorem d_W_law_901 : decode Y_W_law.2.1 901 = .ok (.goto 4, 3) := by decide +kernel
theorem d_W_law_904 : decode Y_W_law.2.1 904 = .ok (.iconst 0, 1) := by decide +kernel
theorem d_W_law_905 : decode Y_W_law.2.1 905 = .ok (.invokevirtual 99, 3) := by decide +kernel
theorem d_W_law_908 : decode Y_W_law.2.1 908 = .ok (.lcmp, 1) := by decide +kernel
theorem d_W_law_909 : decode Y_W_law.2.1 909 = .ok (.ifCond .eq 934, 3) := by decide +kernel
theorem d_W_law_914 : decode Y_W_law.2.1 914 = .ok (.aload_n 1, 1) := by decide +kernel
theorem d_W_law_915 : decode Y_W_law.2.1 915 = .ok (.invokevirtual 100, 3) := by decide +kernel
theorem d_W_law_918 : decode Y_W_law.2.1 918 = .ok (.aload_n 2, 1) := by decide +kernel
theorem d_W_law_919 : decode Y_W_law.2.1 919 = .ok (.invokevirtual 103, 3) := by decide +kernel
theorem d_W_law_922 : decode Y_W_law.2.1 922 = .ok (.if_icmp .eq 921, 3) := by decide +kernel
theorem d_W_law_927 : decode Y_W_law.2.1 927 = .ok (.aload_n 1, 1) := by decide +kernel
theorem d_W_law_928 : decode Y_W_law.2.1 928 = .ok (.invokevirtual 104, 3) := by decide +kernel
theorem d_W_law_931 : decode Y_W_law.2.1 931 = .ok (.aload_n 2, 1) := by decide +kernel
theorem d_W_law_932 : decode Y_W_law.2.1 932 = .ok (.invokevirtual 107, 3) := by decide +kernel
theorem d_W_law_935 : decode Y_W_law.2.1 935 = .ok (.if_icmp .eq 908, 3) := by decide +kernel
theorem d_W_law_940 : decode Y_W_law.2.1 940 = .ok (.aload_n 1, 1) := by decide +kernel
theorem d_W_law_941 : decode Y_W_law.2.1 941 = .ok (.aload_n 0, 1) := by decide +kernel
theorem d_W_law_942 : decode Y_W_law.2.1 942 = .ok (.iload 4, 2) := by decide +kernel
theorem d_W_law_944 : decode Y_W_law.2.1 944 = .ok (.iconst 1, 1) := by decide +kernel
theorem d_W_law_945 : decode Y_W_law.2.1 945 = .ok (.iadd, 1) := by decide +kernel
theorem d_W_law_946 : decode Y_W_law.2.1 946 = .ok (.iaload, 1) := by decide +kernel
theorem d_W_law_947 : decode Y_W_law.2.1 947 = .ok (.invokevirtual 108, 3) := by decide +kernel
theorem d_W_law_950 : decode Y_W_law.2.1 950 = .ok (.aload_n 2, 1) := by decide +kernel
theorem d_W_law_951 : decode Y_W_law.2.1 951 = .ok (.aload_n 0, 1) := by decide +kernel
theorem d_W_law_952 : decode Y_W_law.2.1 952 = .ok (.iload 4, 2) := by decide +kernel
theorem d_W_law_954 : decode Y_W_law.2.1 954 = .ok (.iconst 1, 1) := by decide +kernel
theorem d_W_law_955 : decode Y_W_law.2.1 955 = .ok (.iadd, 1) := by decide +kernel
theorem d_W_law_956 : decode Y_W_law.2.1 956 = .ok (.iaload, 1) := by decide +kernel
theorem d_W_law_957 : decode Y_W_law.2.1 957 = .ok (.invokevirtual 111, 3) := by decide +kernel
theorem d_W_law_960 : decode Y_W_law.2.1 960 = .ok (.if_icmp .eq 883, 3) := by decide +kernel
theorem d_W_law_965 : decode Y_W_law.2.1 965 = .ok (.aload_n 1, 1) := by decide +kernel
theorem d_W_law_966 : decode Y_W_law.2.1 966 = .ok (.aload_n 0, 1) := by decide +kernel
theorem d_W_law_967 : decode Y_W_law.2.1 967 = .ok (.iload 4, 2) := by decide +kernel
theorem d_W_law_969 : decode Y_W_law.2.1 969 = .ok (.iconst 1, 1) := by decide +kernel
theorem d_W_law_970 : decode Y_W_law.2.1 970 = .ok (.iadd, 1) := by decide +kernel
theorem d_W_law_971 : decode Y_W_law.2.1 971 = .ok (.iaload, 1) := by decide +kernel
theorem d_W_law_972 : decode Y_W_law.2.1 972 = .ok (.invokevirtual 112, 3) := by decide +kernel
theorem d_W_law_975 : decode Y_W_law.2.1 975 = .ok (.aload_n 2, 1) := by decide +kernel
theorem d_W_law_976 : decode Y_W_law.2.1 976 = .ok (.aload_n 0, 1) := by decide +kernel
theorem d_W_law_977 : decode Y_W_law.2.1 977 = .ok (.iload 4, 2) := by decide +kernel
theorem d_W_law_979 : decode Y_W_law.2.1 979 = .ok (.iconst 1, 1) := by decide +kernel
theorem d_W_law_980 : decode Y_W_law.2.1 980 = .ok (.iadd, 1) := by decide +kernel
theorem d_W_law_981 : decode Y_W_law.2.1 981 = .ok (.iaload, 1) := by decide +kernel
theorem d_W_law_982 : decode Y_W_law.2.1 982 = .ok (.invokevirtual 115, 3) := by decide +kernel
theorem d_W_law_985 : decode Y_W_law.2.1 985 = .ok (.if_icmp .eq 858, 3) := by decide +kernel
theorem d_W_law_990 : decode Y_W_law.2.1 990 = .ok (.aload_n 1, 1) := by decide +kernel
theorem d_W_law_991 : decode Y_W_law.2.1 991 = .ok (.invokevirtual 116, 3) := by decide +kernel
theorem d_W_law_994 : decode Y_W_law.2.1 994 = .ok (.aload_n 2, 1) := by decide +kernel
theorem d_W_law_995 : decode Y_W_law.2.1 995 = .ok (.invokevirtual 119, 3) := by decide +kernel
theorem d_W_law_998 : decode Y_W_law.2.1 998 = .ok (.if_icmp .eq 845, 3) := by decide +kernel
theorem d_W_law_1003 : decode Y_W_law.2.1 1003 = .ok (.aload_n 1, 1) := by decide +kernel
theorem d_W_law_1004 : decode Y_W_law.2.1 1004 = .ok (.aload_n 0, 1) := by decide +kernel
theorem d_W_law_1005 : decode Y_W_law.2.1 1005 = .ok (.iload 4, 2) := by decide +kernel
theorem d_W_law_1007 : decode Y_W_law.2.1 1007 = .ok (.iconst 1, 1) := by decide +kernel
theorem d_W_law_1008 : decode Y_W_law.2.1 1008 = .ok (.iadd, 1) := by decide +kernel
theorem d_W_law_1009 : decode Y_W_law.2.1 1009 = .ok (.iaload, 1) := by decide +kernel
theorem d_W_law_1010 : decode Y_W_law.2.1 1010 = .ok (.invokevirtual 120, 3) := by decide +kernel
theorem d_W_law_1013 : decode Y_W_law.2.1 1013 = .ok (.aload_n 2, 1) := by decide +kernel
theorem d_W_law_1014 : decode Y_W_law.2.1 1014 = .ok (.aload_n 0, 1) := by decide +kernel
theorem d_W_law_1015 : decode Y_W_law.2.1 1015 = .ok (.iload 4, 2) := by decide +kernel
theorem d_W_law_1017 : decode Y_W_law.2.1 1017 = .ok (.iconst 1, 1) := by decide +kernel
theorem d_W_law_1018 : decode Y_W_law.2.1 1018 = .ok (.iadd, 1) := by decide +kernel
theorem d_W_law_1019 : decode Y_W_law.2.1 1019 = .ok (.iaload, 1) := by decide +kernel
theorem d_W_law_1020 : decode Y_W_law.2.1 1020 = .ok (.invokevirtual 123, 3) := by decide +kernel
theorem d_W_law_1023 : decode Y_W_law.2.1 1023 = .ok (.if_icmp .eq 820, 3) := by decide +kernel
theorem d_W_law_1028 : decode Y_W_law.2.1 1028 = .ok (.aload_n 1, 1) := by decide +kernel
theorem d_W_law_1029 : decode Y_W_law.2.1 1029 = .ok (.aload_n 0, 1) := by decide +kernel
theorem d_W_law_1030 : decode Y_W_law.2.1 1030 = .ok (.iload 4, 2) := by decide +kernel
theorem d_W_law_1032 : decode Y_W_law.2.1 1032 = .ok (.iconst 1, 1) := by decide +kernel
theorem d_W_law_1033 : decode Y_W_law.2.1 1033 = .ok (.iadd, 1) := by decide +kernel
theorem d_W_law_1034 : decode Y_W_law.2.1 1034 = .ok (.iaload, 1) := by decide +kernel
theorem d_W_law_1035 : decode Y_W_law.2.1 1035 = .ok (.invokevirtual 124, 3) := by decide +kernel
theorem d_W_law_1038 : decode Y_W_law.2.1 1038 = .ok (.aload_n 2, 1) := by decide +kernel
theorem d_W_law_1039 : decode Y_W_law.2.1 1039 = .ok (.aload_n 0, 1) := by decide +kernel
theorem d_W_law_1040 : decode Y_W_law.2.1 1040 = .ok (.iload 4, 2) := by decide +kernel
theorem d_W_law_1042 : decode Y_W_law.2.1 1042 = .ok (.iconst 1, 1) := by decide +kernel
theorem d_W_law_1043 : decode Y_W_law.2.1 1043 = .ok (.iadd, 1) := by decide +kernel
theorem d_W_law_1044 : decode Y_W_law.2.1 1044 = .ok (.iaload, 1) := by decide +kernel
theorem d_W_law_1045 : decode Y_W_law.2.1 1045 = .ok (.invokevirtual 127, 3) := by decide +kernel
theorem d_W_law_1048 : decode Y_W_law.2.1 1048 = .ok (.if_icmp .eq 795, 3) := by decide +kernel
theorem d_W_law_1053 : decode Y_W_law.2.1 1053 = .ok (.aload_n 1, 1) := by decide +kernel
theorem d_W_law_1054 : decode Y_W_law.2.1 1054 = .ok (.invokevirtual 128, 3) := by decide +kernel
theorem d_W_law_1057 : decode Y_W_law.2.1 1057 = .ok (.aload_n 2, 1) := by decide +kernel
theorem d_W_law_1058 : decode Y_W_law.2.1 1058 = .ok (.invokevirtual 131, 3) := by decide +kernel
theorem d_W_law_1061 : decode Y_W_law.2.1 1061 = .ok (.if_icmp .eq 782, 3) := by decide +kernel
theorem d_W_law_1066 : decode Y_W_law.2.1 1066 = .ok (.aload_n 1, 1) := by decide +kernel
theorem d_W_law_1067 : decode Y_W_law.2.1 1067 = .ok (.aload_n 0, 1) := by decide +kernel
theorem d_W_law_1068 : decode Y_W_law.2.1 1068 = .ok (.iload 4, 2) := by decide +kernel
theorem d_W_law_1070 : decode Y_W_law.2.1 1070 = .ok (.iconst 1, 1) := by decide +kernel
theorem d_W_law_1071 : decode Y_W_law.2.1 1071 = .ok (.iadd, 1) := by decide +kernel
theorem d_W_law_1072 : decode Y_W_law.2.1 1072 = .ok (.iaload, 1) := by decide +kernel
theorem d_W_law_1073 : decode Y_W_law.2.1 1073 = .ok (.invokevirtual 132, 3) := by decide +kernel
theorem d_W_law_1076 : decode Y_W_law.2.1 1076 = .ok (.aload_n 2, 1) := by decide +kernel
theorem d_W_law_1077 : decode Y_W_law.2.1 1077 = .ok (.aload_n 0, 1) := by decide +kernel
theorem d_W_law_1078 : decode Y_W_law.2.1 1078 = .ok (.iload 4, 2) := by decide +kernel
theorem d_W_law_1080 : decode Y_W_law.2.1 1080 = .ok (.iconst 1, 1) := by decide +kernel
theorem d_W_law_1081 : decode Y_W_law.2.1 1081 = .ok (.iadd, 1) := by decide +kernel
theorem d_W_law_1082 : decode Y_W_law.2.1 1082 = .ok (.iaload, 1) := by decide +kernel
theorem d_W_law_1083 : decode Y_W_law.2.1 1083 = .ok (.invokevirtual 135, 3) := by decide +kernel
theorem d_W_law_1086 : decode Y_W_law.2.1 1086 = .ok (.if_icmp .eq 757, 3) := by decide +kernel
theorem d_W_law_1091 : decode Y_W_law.2.1 1091 = .ok (.aload_n 1, 1) := by decide +kernel
theorem d_W_law_1092 : decode Y_W_law.2.1 1092 = .ok (.aload_n 0, 1) := by decide +kernel
theorem d_W_law_1093 : decode Y_W_law.2.1 1093 = .ok (.iload 4, 2) := by decide +kernel
theorem d_W_law_1095 : decode Y_W_law.2.1 1095 = .ok (.iconst 1, 1) := by decide +kernel
theorem d_W_law_1096 : decode Y_W_law.2.1 1096 = .ok (.iadd, 1) := by decide +kernel
theorem d_W_law_1097 : decode Y_W_law.2.1 1097 = .ok (.iaload, 1) := by decide +kernel
theorem d_W_law_1098 : decode Y_W_law.2.1 1098 = .ok (.invokevirtual 136, 3) := by decide +kernel
theorem d_W_law_1101 : decode Y_W_law.2.1 1101 = .ok (.aload_n 2, 1) := by decide +kernel
theorem d_W_law_1102 : decode Y_W_law.2.1 1102 = .ok (.aload_n 0, 1) := by decide +kernel
theorem d_W_law_1103 : decode Y_W_law.2.1 1103 = .ok (.iload 4, 2) := by decide +kernel
theorem d_W_law_1105 : decode Y_W_law.2.1 1105 = .ok (.iconst 1, 1) := by decide +kernel
theorem d_W_law_1106 : decode Y_W_law.2.1 1106 = .ok (.iadd, 1) := by decide +kernel
theorem d_W_law_1107 : decode Y_W_law.2.1 1107 = .ok (.iaload, 1) := by decide +kernel
theorem d_W_law_1108 : decode Y_W_law.2.1 1108 = .ok (.invokevirtual 139, 3) := by decide +kernel
theorem d_W_law_1111 : decode Y_W_law.2.1 1111 = .ok (.if_icmp .eq 732, 3) := by decide +kernel
theorem d_W_law_1116 : decode Y_W_law.2.1 1116 = .ok (.aload_n 1, 1) := by decide +kernel
theorem d_W_law_1117 : decode Y_W_law.2.1 1117 = .ok (.aload_n 0, 1) := by decide +kernel
theorem d_W_law_1118 : decode Y_W_law.2.1 1118 = .ok (.iload 4, 2) := by decide +kernel
theorem d_W_law_1120 : decode Y_W_law.2.1 1120 = .ok (.iconst 1, 1) := by decide +kernel
theorem d_W_law_1121 : decode Y_W_law.2.1 1121 = .ok (.iadd, 1) := by decide +kernel
theorem d_W_law_1122 : decode Y_W_law.2.1 1122 = .ok (.iaload, 1) := by decide +kernel
theorem d_W_law_1123 : decode Y_W_law.2.1 1123 = .ok (.invokevirtual 140, 3) := by decide +kernel
theorem d_W_law_1126 : decode Y_W_law.2.1 1126 = .ok (.aload_n 2, 1) := by decide +kernel
theorem d_W_law_1127 : decode Y_W_law.2.1 1127 = .ok (.aload_n 0, 1) := by decide +kernel
theorem d_W_law_1128 : decode Y_W_law.2.1 1128 = .ok (.iload 4, 2) := by decide +kernel
theorem d_W_law_1130 : decode Y_W_law.2.1 1130 = .ok (.iconst 1, 1) := by decide +kernel
theorem d_W_law_1131 : decode Y_W_law.2.1 1131 = .ok (.iadd, 1) := by decide +kernel
theorem d_W_law_1132 : decode Y_W_law.2.1 1132 = .ok (.iaload, 1) := by decide +kernel
theorem d_W_law_1133 : decode Y_W_law.2.1 1133 = .ok (.invokevirtual 143, 3) := by decide +kernel
theorem d_W_law_1136 : decode Y_W_law.2.1 1136 = .ok (.if_icmp .eq 707, 3) := by decide +kernel
theorem d_W_law_1141 : decode Y_W_law.2.1 1141 = .ok (.aload_n 1, 1) := by decide +kernel
theorem d_W_law_1142 : decode Y_W_law.2.1 1142 = .ok (.aload_n 0, 1) := by decide +kernel
theorem d_W_law_1143 : decode Y_W_law.2.1 1143 = .ok (.iload 4, 2) := by decide +kernel
theorem d_W_law_1145 : decode Y_W_law.2.1 1145 = .ok (.iconst 1, 1) := by decide +kernel
theorem d_W_law_1146 : decode Y_W_law.2.1 1146 = .ok (.iadd, 1) := by decide +kernel
theorem d_W_law_1147 : decode Y_W_law.2.1 1147 = .ok (.iaload, 1) := by decide +kernel
theorem d_W_law_1148 : decode Y_W_law.2.1 1148 = .ok (.invokevirtual 144, 3) := by decide +kernel
theorem d_W_law_1151 : decode Y_W_law.2.1 1151 = .ok (.aload_n 2, 1) := by decide +kernel
theorem d_W_law_1152 : decode Y_W_law.2.1 1152 = .ok (.aload_n 0, 1) := by decide +kernel
theorem d_W_law_1153 : decode Y_W_law.2.1 1153 = .ok (.iload 4, 2) := by decide +kernel
theorem d_W_law_1155 : decode Y_W_law.2.1 1155 = .ok (.iconst 1, 1) := by decide +kernel
theorem d_W_law_1156 : decode Y_W_law.2.1 1156 = .ok (.iadd, 1) := by decide +kernel
theorem d_W_law_1157 : decode Y_W_law.2.1 1157 = .ok (.iaload, 1) := by decide +kernel
theorem d_W_law_1158 : decode Y_W_law.2.1 1158 = .ok (.invokevirtual 147, 3) := by decide +kernel
theorem d_W_law_1161 : decode Y_W_law.2.1 1161 = .ok (.if_icmp .eq 682, 3) := by decide +kernel
theorem d_W_law_1166 : decode Y_W_law.2.1 1166 = .ok (.aload_n 1, 1) := by decide +kernel
theorem d_W_law_1167 : decode Y_W_law.2.1 1167 = .ok (.invokevirtual 148, 3) := by decide +kernel
theorem d_W_law_1170 : decode Y_W_law.2.1 1170 = .ok (.aload_n 2, 1) := by decide +kernel
theorem d_W_law_1171 : decode Y_W_law.2.1 1171 = .ok (.invokevirtual 151, 3) := by decide +kernel
theorem d_W_law_1174 : decode Y_W_law.2.1 1174 = .ok (.if_icmp .eq 669, 3) := by decide +kernel
theorem d_W_law_1179 : decode Y_W_law.2.1 1179 = .ok (.aload_n 1, 1) := by decide +kernel
theorem d_W_law_1180 : decode Y_W_law.2.1 1180 = .ok (.invokevirtual 152, 3) := by decide +kernel
theorem d_W_law_1183 : decode Y_W_law.2.1 1183 = .ok (.aload_n 2, 1) := by decide +kernel
theorem d_W_law_1184 : decode Y_W_law.2.1 1184 = .ok (.invokevirtual 155, 3) := by decide +kernel
theorem d_W_law_1187 : decode Y_W_law.2.1 1187 = .ok (.if_icmp .eq 656, 3) := by decide +kernel
theorem d_W_law_1192 : decode Y_W_law.2.1 1192 = .ok (.aload_n 1, 1) := by decide +kernel
theorem d_W_law_1193 : decode Y_W_law.2.1 1193 = .ok (.invokevirtual 156, 3) := by decide +kernel
theorem d_W_law_1196 : decode Y_W_law.2.1 1196 = .ok (.aload_n 2, 1) := by decide +kernel
theorem d_W_law_1197 : decode Y_W_law.2.1 1197 = .ok (.invokevirtual 159, 3) := by decide +kernel
theorem d_W_law_1200 : decode Y_W_law.2.1 1200 = .ok (.if_icmp .eq 643, 3) := by decide +kernel
theorem d_W_law_1205 : decode Y_W_law.2.1 1205 = .ok (.aload_n 1, 1) := by decide +kernel
theorem d_W_law_1206 : decode Y_W_law.2.1 1206 = .ok (.aload_n 0, 1) := by decide +kernel
theorem d_W_law_1207 : decode Y_W_law.2.1 1207 = .ok (.iload 4, 2) := by decide +kernel
theorem d_W_law_1209 : decode Y_W_law.2.1 1209 = .ok (.iconst 1, 1) := by decide +kernel
theorem d_W_law_1210 : decode Y_W_law.2.1 1210 = .ok (.iadd, 1) := by decide +kernel
theorem d_W_law_1211 : decode Y_W_law.2.1 1211 = .ok (.iaload, 1) := by decide +kernel
theorem d_W_law_1212 : decode Y_W_law.2.1 1212 = .ok (.invokevirtual 160, 3) := by decide +kernel
theorem d_W_law_1215 : decode Y_W_law.2.1 1215 = .ok (.aload_n 2, 1) := by decide +kernel
theorem d_W_law_1216 : decode Y_W_law.2.1 1216 = .ok (.aload_n 0, 1) := by decide +kernel
theorem d_W_law_1217 : decode Y_W_law.2.1 1217 = .ok (.iload 4, 2) := by decide +kernel
theorem d_W_law_1219 : decode Y_W_law.2.1 1219 = .ok (.iconst 1, 1) := by decide +kernel
theorem d_W_law_1220 : decode Y_W_law.2.1 1220 = .ok (.iadd, 1) := by decide +kernel
theorem d_W_law_1221 : decode Y_W_law.2.1 1221 = .ok (.iaload, 1) := by decide +kernel
theorem d_W_law_1222 : decode Y_W_law.2.1 1222 = .ok (.invokevirtual 163, 3) := by decide +kernel
theorem d_W_law_1225 : decode Y_W_law.2.1 1225 = .ok (.if_icmp .eq 618, 3) := by decide +kernel
theorem d_W_law_1230 : decode Y_W_law.2.1 1230 = .ok (.aload_n 1, 1) := by decide +kernel
theorem d_W_law_1231 : decode Y_W_law.2.1 1231 = .ok (.aload_n 0, 1) := by decide +kernel
theorem d_W_law_1232 : decode Y_W_law.2.1 1232 = .ok (.iload 4, 2) := by decide +kernel
theorem d_W_law_1234 : decode Y_W_law.2.1 1234 = .ok (.iconst 1, 1) := by decide +kernel
theorem d_W_law_1235 : decode Y_W_law.2.1 1235 = .ok (.iadd, 1) := by decide +kernel
theorem d_W_law_1236 : decode Y_W_law.2.1 1236 = .ok (.iaload, 1) := by decide +kernel
theorem d_W_law_1237 : decode Y_W_law.2.1 1237 = .ok (.invokevirtual 164, 3) := by decide +kernel
theorem d_W_law_1240 : decode Y_W_law.2.1 1240 = .ok (.aload_n 2, 1) := by decide +kernel
theorem d_W_law_1241 : decode Y_W_law.2.1 1241 = .ok (.aload_n 0, 1) := by decide +kernel
theorem d_W_law_1242 : decode Y_W_law.2.1 1242 = .ok (.iload 4, 2) := by decide +kernel
theorem d_W_law_1244 : decode Y_W_law.2.1 1244 = .ok (.iconst 1, 1) := by decide +kernel
theorem d_W_law_1245 : decode Y_W_law.2.1 1245 = .ok (.iadd, 1) := by decide +kernel
theorem d_W_law_1246 : decode Y_W_law.2.1 1246 = .ok (.iaload, 1) := by decide +kernel
theorem d_W_law_1247 : decode Y_W_law.2.1 1247 = .ok (.invokevirtual 167, 3) := by decide +kernel
theorem d_W_law_1250 : decode Y_W_law.2.1 1250 = .ok (.if_icmp .eq 593, 3) := by decide +kernel
theorem d_W_law_1255 : decode Y_W_law.2.1 1255 = .ok (.aload_n 1, 1) := by decide +kernel
theorem d_W_law_1256 : decode Y_W_law.2.1 1256 = .ok (.invokevirtual 168, 3) := by decide +kernel
theorem d_W_law_1259 : decode Y_W_law.2.1 1259 = .ok (.aload_n 2, 1) := by decide +kernel
theorem d_W_law_1260 : decode Y_W_law.2.1 1260 = .ok (.invokevirtual 171, 3) := by decide +kernel
theorem d_W_law_1263 : decode Y_W_law.2.1 1263 = .ok (.if_icmp .eq 580, 3) := by decide +kernel
theorem d_W_law_1268 : decode Y_W_law.2.1 1268 = .ok (.aload_n 1, 1) := by decide +kernel
theorem d_W_law_1269 : decode Y_W_law.2.1 1269 = .ok (.aload_n 0, 1) := by decide +kernel
theorem d_W_law_1270 : decode Y_W_law.2.1 1270 = .ok (.iload 4, 2) := by decide +kernel
theorem d_W_law_1272 : decode Y_W_law.2.1 1272 = .ok (.iconst 1, 1) := by decide +kernel
theorem d_W_law_1273 : decode Y_W_law.2.1 1273 = .ok (.iadd, 1) := by decide +kernel
theorem d_W_law_1274 : decode Y_W_law.2.1 1274 = .ok (.iaload, 1) := by decide +kernel
theorem d_W_law_1275 : decode Y_W_law.2.1 1275 = .ok (.invokevirtual 172, 3) := by decide +kernel
theorem d_W_law_1278 : decode Y_W_law.2.1 1278 = .ok (.aload_n 2, 1) := by decide +kernel
theorem d_W_law_1279 : decode Y_W_law.2.1 1279 = .ok (.aload_n 0, 1) := by decide +kernel
theorem d_W_law_1280 : decode Y_W_law.2.1 1280 = .ok (.iload 4, 2) := by decide +kernel
theorem d_W_law_1282 : decode Y_W_law.2.1 1282 = .ok (.iconst 1, 1) := by decide +kernel
theorem d_W_law_1283 : decode Y_W_law.2.1 1283 = .ok (.iadd, 1) := by decide +kernel
theorem d_W_law_1284 : decode Y_W_law.2.1 1284 = .ok (.iaload, 1) := by decide +kernel
theorem d_W_law_1285 : decode Y_W_law.2.1 1285 = .ok (.invokevirtual 175, 3) := by decide +kernel
theorem d_W_law_1288 : decode Y_W_law.2.1 1288 = .ok (.if_icmp .eq 555, 3) := by decide +kernel
theorem d_W_law_1293 : decode Y_W_law.2.1 1293 = .ok (.aload_n 1, 1) := by decide +kernel
theorem d_W_law_1294 : decode Y_W_law.2.1 1294 = .ok (.aload_n 0, 1) := by decide +kernel
theorem d_W_law_1295 : decode Y_W_law.2.1 1295 = .ok (.iload 4, 2) := by decide +kernel
theorem d_W_law_1297 : decode Y_W_law.2.1 1297 = .ok (.iconst 1, 1) := by decide +kernel
theorem d_W_law_1298 : decode Y_W_law.2.1 1298 = .ok (.iadd, 1) := by decide +kernel
theorem d_W_law_1299 : decode Y_W_law.2.1 1299 = .ok (.iaload, 1) := by decide +kernel
theorem d_W_law_1300 : decode Y_W_law.2.1 1300 = .ok (.aload_n 0, 1) := by decide +kernel
theorem d_W_law_1301 : decode Y_W_law.2.1 1301 = .ok (.iload 4, 2) := by decide +kernel
theorem d_W_law_1303 : decode Y_W_law.2.1 1303 = .ok (.iconst 2, 1) := by decide +kernel
theorem d_W_law_1304 : decode Y_W_law.2.1 1304 = .ok (.iadd, 1) := by decide +kernel
theorem d_W_law_1305 : decode Y_W_law.2.1 1305 = .ok (.iaload, 1) := by decide +kernel
theorem d_W_law_1306 : decode Y_W_law.2.1 1306 = .ok (.ifCond .eq 7, 3) := by decide +kernel
theorem d_W_law_1309 : decode Y_W_law.2.1 1309 = .ok (.iconst 1, 1) := by decide +kernel
theorem d_W_law_1310 : decode Y_W_law.2.1 1310 = .ok (.goto 4, 3) := by decide +kernel
theorem d_W_law_1313 : decode Y_W_law.2.1 1313 = .ok (.iconst 0, 1) := by decide +kernel
theorem d_W_law_1314 : decode Y_W_law.2.1 1314 = .ok (.aload_n 0, 1) := by decide +kernel
theorem d_W_law_1315 : decode Y_W_law.2.1 1315 = .ok (.iload 4, 2) := by decide +kernel
theorem d_W_law_1317 : decode Y_W_law.2.1 1317 = .ok (.iconst 3, 1) := by decide +kernel
theorem d_W_law_1318 : decode Y_W_law.2.1 1318 = .ok (.iadd, 1) := by decide +kernel
theorem d_W_law_1319 : decode Y_W_law.2.1 1319 = .ok (.iaload, 1) := by decide +kernel
theorem d_W_law_1320 : decode Y_W_law.2.1 1320 = .ok (.aload_n 0, 1) := by decide +kernel
theorem d_W_law_1321 : decode Y_W_law.2.1 1321 = .ok (.iload 4, 2) := by decide +kernel
theorem d_W_law_1323 : decode Y_W_law.2.1 1323 = .ok (.iconst 4, 1) := by decide +kernel
theorem d_W_law_1324 : decode Y_W_law.2.1 1324 = .ok (.iadd, 1) := by decide +kernel
theorem d_W_law_1325 : decode Y_W_law.2.1 1325 = .ok (.iaload, 1) := by decide +kernel
theorem d_W_law_1326 : decode Y_W_law.2.1 1326 = .ok (.ifCond .eq 7, 3) := by decide +kernel
theorem d_W_law_1329 : decode Y_W_law.2.1 1329 = .ok (.iconst 1, 1) := by decide +kernel
theorem d_W_law_1330 : decode Y_W_law.2.1 1330 = .ok (.goto 4, 3) := by decide +kernel
theorem d_W_law_1333 : decode Y_W_law.2.1 1333 = .ok (.iconst 0, 1) := by decide +kernel
theorem d_W_law_1334 : decode Y_W_law.2.1 1334 = .ok (.aload_n 0, 1) := by decide +kernel
theorem d_W_law_1335 : decode Y_W_law.2.1 1335 = .ok (.iload 4, 2) := by decide +kernel
theorem d_W_law_1337 : decode Y_W_law.2.1 1337 = .ok (.iconst 5, 1) := by decide +kernel
theorem d_W_law_1338 : decode Y_W_law.2.1 1338 = .ok (.iadd, 1) := by decide +kernel
theorem d_W_law_1339 : decode Y_W_law.2.1 1339 = .ok (.iaload, 1) := by decide +kernel
theorem d_W_law_1340 : decode Y_W_law.2.1 1340 = .ok (.ifCond .eq 7, 3) := by decide +kernel
theorem d_W_law_1343 : decode Y_W_law.2.1 1343 = .ok (.iconst 1, 1) := by decide +kernel
theorem d_W_law_1344 : decode Y_W_law.2.1 1344 = .ok (.goto 4, 3) := by decide +kernel
theorem d_W_law_1347 : decode Y_W_law.2.1 1347 = .ok (.iconst 0, 1) := by decide +kernel
theorem d_W_law_1348 : decode Y_W_law.2.1 1348 = .ok (.invokevirtual 176, 3) := by decide +kernel
theorem d_W_law_1351 : decode Y_W_law.2.1 1351 = .ok (.aload_n 2, 1) := by decide +kernel
theorem d_W_law_1352 : decode Y_W_law.2.1 1352 = .ok (.aload_n 0, 1) := by decide +kernel
theorem d_W_law_1353 : decode Y_W_law.2.1 1353 = .ok (.iload 4, 2) := by decide +kernel
theorem d_W_law_1355 : decode Y_W_law.2.1 1355 = .ok (.iconst 1, 1) := by decide +kernel
theorem d_W_law_1356 : decode Y_W_law.2.1 1356 = .ok (.iadd, 1) := by decide +kernel
theorem d_W_law_1357 : decode Y_W_law.2.1 1357 = .ok (.iaload, 1) := by decide +kernel
theorem d_W_law_1358 : decode Y_W_law.2.1 1358 = .ok (.aload_n 0, 1) := by decide +kernel
theorem d_W_law_1359 : decode Y_W_law.2.1 1359 = .ok (.iload 4, 2) := by decide +kernel
theorem d_W_law_1361 : decode Y_W_law.2.1 1361 = .ok (.iconst 2, 1) := by decide +kernel
theorem d_W_law_1362 : decode Y_W_law.2.1 1362 = .ok (.iadd, 1) := by decide +kernel
theorem d_W_law_1363 : decode Y_W_law.2.1 1363 = .ok (.iaload, 1) := by decide +kernel
theorem d_W_law_1364 : decode Y_W_law.2.1 1364 = .ok (.ifCond .eq 7, 3) := by decide +kernel
theorem d_W_law_1367 : decode Y_W_law.2.1 1367 = .ok (.iconst 1, 1) := by decide +kernel
theorem d_W_law_1368 : decode Y_W_law.2.1 1368 = .ok (.goto 4, 3) := by decide +kernel
theorem d_W_law_1371 : decode Y_W_law.2.1 1371 = .ok (.iconst 0, 1) := by decide +kernel
theorem d_W_law_1372 : decode Y_W_law.2.1 1372 = .ok (.aload_n 0, 1) := by decide +kernel
theorem d_W_law_1373 : decode Y_W_law.2.1 1373 = .ok (.iload 4, 2) := by decide +kernel
theorem d_W_law_1375 : decode Y_W_law.2.1 1375 = .ok (.iconst 3, 1) := by decide +kernel
theorem d_W_law_1376 : decode Y_W_law.2.1 1376 = .ok (.iadd, 1) := by decide +kernel
theorem d_W_law_1377 : decode Y_W_law.2.1 1377 = .ok (.iaload, 1) := by decide +kernel
theorem d_W_law_1378 : decode Y_W_law.2.1 1378 = .ok (.aload_n 0, 1) := by decide +kernel
theorem d_W_law_1379 : decode Y_W_law.2.1 1379 = .ok (.iload 4, 2) := by decide +kernel
theorem d_W_law_1381 : decode Y_W_law.2.1 1381 = .ok (.iconst 4, 1) := by decide +kernel
theorem d_W_law_1382 : decode Y_W_law.2.1 1382 = .ok (.iadd, 1) := by decide +kernel
theorem d_W_law_1383 : decode Y_W_law.2.1 1383 = .ok (.iaload, 1) := by decide +kernel
theorem d_W_law_1384 : decode Y_W_law.2.1 1384 = .ok (.ifCond .eq 7, 3) := by decide +kernel
theorem d_W_law_1387 : decode Y_W_law.2.1 1387 = .ok (.iconst 1, 1) := by decide +kernel
theorem d_W_law_1388 : decode Y_W_law.2.1 1388 = .ok (.goto 4, 3) := by decide +kernel
theorem d_W_law_1391 : decode Y_W_law.2.1 1391 = .ok (.iconst 0, 1) := by decide +kernel
theorem d_W_law_1392 : decode Y_W_law.2.1 1392 = .ok (.aload_n 0, 1) := by decide +kernel
theorem d_W_law_1393 : decode Y_W_law.2.1 1393 = .ok (.iload 4, 2) := by decide +kernel
theorem d_W_law_1395 : decode Y_W_law.2.1 1395 = .ok (.iconst 5, 1) := by decide +kernel
theorem d_W_law_1396 : decode Y_W_law.2.1 1396 = .ok (.iadd, 1) := by decide +kernel
theorem d_W_law_1397 : decode Y_W_law.2.1 1397 = .ok (.iaload, 1) := by decide +kernel
theorem d_W_law_1398 : decode Y_W_law.2.1 1398 = .ok (.ifCond .eq 7, 3) := by decide +kernel
theorem d_W_law_1401 : decode Y_W_law.2.1 1401 = .ok (.iconst 1, 1) := by decide +kernel
theorem d_W_law_1402 : decode Y_W_law.2.1 1402 = .ok (.goto 4, 3) := by decide +kernel
theorem d_W_law_1405 : decode Y_W_law.2.1 1405 = .ok (.iconst 0, 1) := by decide +kernel
theorem d_W_law_1406 : decode Y_W_law.2.1 1406 = .ok (.invokevirtual 180, 3) := by decide +kernel
theorem d_W_law_1409 : decode Y_W_law.2.1 1409 = .ok (.if_icmp .eq 434, 3) := by decide +kernel
theorem d_W_law_1414 : decode Y_W_law.2.1 1414 = .ok (.aload_n 1, 1) := by decide +kernel
theorem d_W_law_1415 : decode Y_W_law.2.1 1415 = .ok (.aload_n 0, 1) := by decide +kernel
theorem d_W_law_1416 : decode Y_W_law.2.1 1416 = .ok (.iload 4, 2) := by decide +kernel
theorem d_W_law_1418 : decode Y_W_law.2.1 1418 = .ok (.iconst 1, 1) := by decide +kernel
theorem d_W_law_1419 : decode Y_W_law.2.1 1419 = .ok (.iadd, 1) := by decide +kernel
theorem d_W_law_1420 : decode Y_W_law.2.1 1420 = .ok (.iaload, 1) := by decide +kernel
theorem d_W_law_1421 : decode Y_W_law.2.1 1421 = .ok (.aload_n 0, 1) := by decide +kernel
theorem d_W_law_1422 : decode Y_W_law.2.1 1422 = .ok (.iload 4, 2) := by decide +kernel
theorem d_W_law_1424 : decode Y_W_law.2.1 1424 = .ok (.iconst 2, 1) := by decide +kernel
theorem d_W_law_1425 : decode Y_W_law.2.1 1425 = .ok (.iadd, 1) := by decide +kernel
theorem d_W_law_1426 : decode Y_W_law.2.1 1426 = .ok (.iaload, 1) := by decide +kernel
theorem d_W_law_1427 : decode Y_W_law.2.1 1427 = .ok (.invokevirtual 181, 3) := by decide +kernel
theorem d_W_law_1430 : decode Y_W_law.2.1 1430 = .ok (.aload_n 2, 1) := by decide +kernel
theorem d_W_law_1431 : decode Y_W_law.2.1 1431 = .ok (.aload_n 0, 1) := by decide +kernel
theorem d_W_law_1432 : decode Y_W_law.2.1 1432 = .ok (.iload 4, 2) := by decide +kernel
theorem d_W_law_1434 : decode Y_W_law.2.1 1434 = .ok (.iconst 1, 1) := by decide +kernel
theorem d_W_law_1435 : decode Y_W_law.2.1 1435 = .ok (.iadd, 1) := by decide +kernel
theorem d_W_law_1436 : decode Y_W_law.2.1 1436 = .ok (.iaload, 1) := by decide +kernel
theorem d_W_law_1437 : decode Y_W_law.2.1 1437 = .ok (.aload_n 0, 1) := by decide +kernel
theorem d_W_law_1438 : decode Y_W_law.2.1 1438 = .ok (.iload 4, 2) := by decide +kernel
theorem d_W_law_1440 : decode Y_W_law.2.1 1440 = .ok (.iconst 2, 1) := by decide +kernel
theorem d_W_law_1441 : decode Y_W_law.2.1 1441 = .ok (.iadd, 1) := by decide +kernel
theorem d_W_law_1442 : decode Y_W_law.2.1 1442 = .ok (.iaload, 1) := by decide +kernel
theorem d_W_law_1443 : decode Y_W_law.2.1 1443 = .ok (.invokevirtual 184, 3) := by decide +kernel
theorem d_W_law_1446 : decode Y_W_law.2.1 1446 = .ok (.if_icmp .eq 397, 3) := by decide +kernel
theorem d_W_law_1451 : decode Y_W_law.2.1 1451 = .ok (.aload_n 1, 1) := by decide +kernel
theorem d_W_law_1452 : decode Y_W_law.2.1 1452 = .ok (.aload_n 0, 1) := by decide +kernel
theorem d_W_law_1453 : decode Y_W_law.2.1 1453 = .ok (.iload 4, 2) := by decide +kernel
theorem d_W_law_1455 : decode Y_W_law.2.1 1455 = .ok (.iconst 1, 1) := by decide +kernel
theorem d_W_law_1456 : decode Y_W_law.2.1 1456 = .ok (.iadd, 1) := by decide +kernel
theorem d_W_law_1457 : decode Y_W_law.2.1 1457 = .ok (.iaload, 1) := by decide +kernel
theorem d_W_law_1458 : decode Y_W_law.2.1 1458 = .ok (.aload_n 0, 1) := by decide +kernel
theorem d_W_law_1459 : decode Y_W_law.2.1 1459 = .ok (.iload 4, 2) := by decide +kernel
theorem d_W_law_1461 : decode Y_W_law.2.1 1461 = .ok (.iconst 2, 1) := by decide +kernel
theorem d_W_law_1462 : decode Y_W_law.2.1 1462 = .ok (.iadd, 1) := by decide +kernel
theorem d_W_law_1463 : decode Y_W_law.2.1 1463 = .ok (.iaload, 1) := by decide +kernel
theorem d_W_law_1464 : decode Y_W_law.2.1 1464 = .ok (.invokevirtual 185, 3) := by decide +kernel
theorem d_W_law_1467 : decode Y_W_law.2.1 1467 = .ok (.aload_n 2, 1) := by decide +kernel
theorem d_W_law_1468 : decode Y_W_law.2.1 1468 = .ok (.aload_n 0, 1) := by decide +kernel
theorem d_W_law_1469 : decode Y_W_law.2.1 1469 = .ok (.iload 4, 2) := by decide +kernel
theorem d_W_law_1471 : decode Y_W_law.2.1 1471 = .ok (.iconst 1, 1) := by decide +kernel
theorem d_W_law_1472 : decode Y_W_law.2.1 1472 = .ok (.iadd, 1) := by decide +kernel
theorem d_W_law_1473 : decode Y_W_law.2.1 1473 = .ok (.iaload, 1) := by decide +kernel
theorem d_W_law_1474 : decode Y_W_law.2.1 1474 = .ok (.aload_n 0, 1) := by decide +kernel
theorem d_W_law_1475 : decode Y_W_law.2.1 1475 = .ok (.iload 4, 2) := by decide +kernel
theorem d_W_law_1477 : decode Y_W_law.2.1 1477 = .ok (.iconst 2, 1) := by decide +kernel
theorem d_W_law_1478 : decode Y_W_law.2.1 1478 = .ok (.iadd, 1) := by decide +kernel
theorem d_W_law_1479 : decode Y_W_law.2.1 1479 = .ok (.iaload, 1) := by decide +kernel
theorem d_W_law_1480 : decode Y_W_law.2.1 1480 = .ok (.invokevirtual 188, 3) := by decide +kernel
theorem d_W_law_1483 : decode Y_W_law.2.1 1483 = .ok (.if_icmp .eq 360, 3) := by decide +kernel
theorem d_W_law_1488 : decode Y_W_law.2.1 1488 = .ok (.aload_n 1, 1) := by decide +kernel
theorem d_W_law_1489 : decode Y_W_law.2.1 1489 = .ok (.aload_n 0, 1) := by decide +kernel
theorem d_W_law_1490 : decode Y_W_law.2.1 1490 = .ok (.iload 4, 2) := by decide +kernel
theorem d_W_law_1492 : decode Y_W_law.2.1 1492 = .ok (.iconst 1, 1) := by decide +kernel
theorem d_W_law_1493 : decode Y_W_law.2.1 1493 = .ok (.iadd, 1) := by decide +kernel
theorem d_W_law_1494 : decode Y_W_law.2.1 1494 = .ok (.iaload, 1) := by decide +kernel
theorem d_W_law_1495 : decode Y_W_law.2.1 1495 = .ok (.aload_n 0, 1) := by decide +kernel
theorem d_W_law_1496 : decode Y_W_law.2.1 1496 = .ok (.iload 4, 2) := by decide +kernel
theorem d_W_law_1498 : decode Y_W_law.2.1 1498 = .ok (.iconst 2, 1) := by decide +kernel
theorem d_W_law_1499 : decode Y_W_law.2.1 1499 = .ok (.iadd, 1) := by decide +kernel
theorem d_W_law_1500 : decode Y_W_law.2.1 1500 = .ok (.iaload, 1) := by decide +kernel
theorem d_W_law_1501 : decode Y_W_law.2.1 1501 = .ok (.invokevirtual 189, 3) := by decide +kernel
theorem d_W_law_1504 : decode Y_W_law.2.1 1504 = .ok (.aload_n 2, 1) := by decide +kernel
theorem d_W_law_1505 : decode Y_W_law.2.1 1505 = .ok (.aload_n 0, 1) := by decide +kernel
theorem d_W_law_1506 : decode Y_W_law.2.1 1506 = .ok (.iload 4, 2) := by decide +kernel
theorem d_W_law_1508 : decode Y_W_law.2.1 1508 = .ok (.iconst 1, 1) := by decide +kernel
theorem d_W_law_1509 : decode Y_W_law.2.1 1509 = .ok (.iadd, 1) := by decide +kernel
theorem d_W_law_1510 : decode Y_W_law.2.1 1510 = .ok (.iaload, 1) := by decide +kernel
theorem d_W_law_1511 : decode Y_W_law.2.1 1511 = .ok (.aload_n 0, 1) := by decide +kernel
theorem d_W_law_1512 : decode Y_W_law.2.1 1512 = .ok (.iload 4, 2) := by decide +kernel
theorem d_W_law_1514 : decode Y_W_law.2.1 1514 = .ok (.iconst 2, 1) := by decide +kernel
theorem d_W_law_1515 : decode Y_W_law.2.1 1515 = .ok (.iadd, 1) := by decide +kernel
theorem d_W_law_1516 : decode Y_W_law.2.1 1516 = .ok (.iaload, 1) := by decide +kernel
theorem d_W_law_1517 : decode Y_W_law.2.1 1517 = .ok (.invokevirtual 192, 3) := by decide +kernel
theorem d_W_law_1520 : decode Y_W_law.2.1 1520 = .ok (.if_icmp .eq 323, 3) := by decide +kernel
theorem d_W_law_1525 : decode Y_W_law.2.1 1525 = .ok (.aload_n 1, 1) := by decide +kernel
theorem d_W_law_1526 : decode Y_W_law.2.1 1526 = .ok (.aload_n 0, 1) := by decide +kernel
theorem d_W_law_1527 : decode Y_W_law.2.1 1527 = .ok (.iload 4, 2) := by decide +kernel
theorem d_W_law_1529 : decode Y_W_law.2.1 1529 = .ok (.iconst 1, 1) := by decide +kernel
theorem d_W_law_1530 : decode Y_W_law.2.1 1530 = .ok (.iadd, 1) := by decide +kernel
theorem d_W_law_1531 : decode Y_W_law.2.1 1531 = .ok (.iaload, 1) := by decide +kernel
theorem d_W_law_1532 : decode Y_W_law.2.1 1532 = .ok (.aload_n 0, 1) := by decide +kernel
theorem d_W_law_1533 : decode Y_W_law.2.1 1533 = .ok (.iload 4, 2) := by decide +kernel
theorem d_W_law_1535 : decode Y_W_law.2.1 1535 = .ok (.iconst 2, 1) := by decide +kernel
theorem d_W_law_1536 : decode Y_W_law.2.1 1536 = .ok (.iadd, 1) := by decide +kernel
theorem d_W_law_1537 : decode Y_W_law.2.1 1537 = .ok (.iaload, 1) := by decide +kernel
theorem d_W_law_1538 : decode Y_W_law.2.1 1538 = .ok (.aload_n 0, 1) := by decide +kernel
theorem d_W_law_1539 : decode Y_W_law.2.1 1539 = .ok (.iload 4, 2) := by decide +kernel
theorem d_W_law_1541 : decode Y_W_law.2.1 1541 = .ok (.iconst 3, 1) := by decide +kernel
theorem d_W_law_1542 : decode Y_W_law.2.1 1542 = .ok (.iadd, 1) := by decide +kernel
theorem d_W_law_1543 : decode Y_W_law.2.1 1543 = .ok (.iaload, 1) := by decide +kernel
theorem d_W_law_1544 : decode Y_W_law.2.1 1544 = .ok (.invokevirtual 193, 3) := by decide +kernel
theorem d_W_law_1547 : decode Y_W_law.2.1 1547 = .ok (.aload_n 2, 1) := by decide +kernel
theorem d_W_law_1548 : decode Y_W_law.2.1 1548 = .ok (.aload_n 0, 1) := by decide +kernel
theorem d_W_law_1549 : decode Y_W_law.2.1 1549 = .ok (.iload 4, 2) := by decide +kernel
theorem d_W_law_1551 : decode Y_W_law.2.1 1551 = .ok (.iconst 1, 1) := by decide +kernel
theorem d_W_law_1552 : decode Y_W_law.2.1 1552 = .ok (.iadd, 1) := by decide +kernel
theorem d_W_law_1553 : decode Y_W_law.2.1 1553 = .ok (.iaload, 1) := by decide +kernel
theorem d_W_law_1554 : decode Y_W_law.2.1 1554 = .ok (.aload_n 0, 1) := by decide +kernel
theorem d_W_law_1555 : decode Y_W_law.2.1 1555 = .ok (.iload 4, 2) := by decide +kernel
theorem d_W_law_1557 : decode Y_W_law.2.1 1557 = .ok (.iconst 2, 1) := by decide +kernel
theorem d_W_law_1558 : decode Y_W_law.2.1 1558 = .ok (.iadd, 1) := by decide +kernel
theorem d_W_law_1559 : decode Y_W_law.2.1 1559 = .ok (.iaload, 1) := by decide +kernel
theorem d_W_law_1560 : decode Y_W_law.2.1 1560 = .ok (.aload_n 0, 1) := by decide +kernel
theorem d_W_law_1561 : decode Y_W_law.2.1 1561 = .ok (.iload 4, 2) := by decide +kernel
theorem d_W_law_1563 : decode Y_W_law.2.1 1563 = .ok (.iconst 3, 1) := by decide +kernel
theorem d_W_law_1564 : decode Y_W_law.2.1 1564 = .ok (.iadd, 1) := by decide +kernel
theorem d_W_law_1565 : decode Y_W_law.2.1 1565 = .ok (.iaload, 1) := by decide +kernel
theorem d_W_law_1566 : decode Y_W_law.2.1 1566 = .ok (.invokevirtual 197, 3) := by decide +kernel
theorem d_W_law_1569 : decode Y_W_law.2.1 1569 = .ok (.if_icmp .eq 274, 3) := by decide +kernel
theorem d_W_law_1574 : decode Y_W_law.2.1 1574 = .ok (.aload_n 1, 1) := by decide +kernel
theorem d_W_law_1575 : decode Y_W_law.2.1 1575 = .ok (.aload_n 0, 1) := by decide +kernel
theorem d_W_law_1576 : decode Y_W_law.2.1 1576 = .ok (.iload 4, 2) := by decide +kernel
theorem d_W_law_1578 : decode Y_W_law.2.1 1578 = .ok (.iconst 1, 1) := by decide +kernel
theorem d_W_law_1579 : decode Y_W_law.2.1 1579 = .ok (.iadd, 1) := by decide +kernel
theorem d_W_law_1580 : decode Y_W_law.2.1 1580 = .ok (.iaload, 1) := by decide +kernel
theorem d_W_law_1581 : decode Y_W_law.2.1 1581 = .ok (.aload_n 0, 1) := by decide +kernel
theorem d_W_law_1582 : decode Y_W_law.2.1 1582 = .ok (.iload 4, 2) := by decide +kernel
theorem d_W_law_1584 : decode Y_W_law.2.1 1584 = .ok (.iconst 2, 1) := by decide +kernel
theorem d_W_law_1585 : decode Y_W_law.2.1 1585 = .ok (.iadd, 1) := by decide +kernel
theorem d_W_law_1586 : decode Y_W_law.2.1 1586 = .ok (.iaload, 1) := by decide +kernel
theorem d_W_law_1587 : decode Y_W_law.2.1 1587 = .ok (.invokevirtual 198, 3) := by decide +kernel
theorem d_W_law_1590 : decode Y_W_law.2.1 1590 = .ok (.aload_n 2, 1) := by decide +kernel
theorem d_W_law_1591 : decode Y_W_law.2.1 1591 = .ok (.aload_n 0, 1) := by decide +kernel
theorem d_W_law_1592 : decode Y_W_law.2.1 1592 = .ok (.iload 4, 2) := by decide +kernel
theorem d_W_law_1594 : decode Y_W_law.2.1 1594 = .ok (.iconst 1, 1) := by decide +kernel
theorem d_W_law_1595 : decode Y_W_law.2.1 1595 = .ok (.iadd, 1) := by decide +kernel
theorem d_W_law_1596 : decode Y_W_law.2.1 1596 = .ok (.iaload, 1) := by decide +kernel
theorem d_W_law_1597 : decode Y_W_law.2.1 1597 = .ok (.aload_n 0, 1) := by decide +kernel
theorem d_W_law_1598 : decode Y_W_law.2.1 1598 = .ok (.iload 4, 2) := by decide +kernel
theorem d_W_law_1600 : decode Y_W_law.2.1 1600 = .ok (.iconst 2, 1) := by decide +kernel
theorem d_W_law_1601 : decode Y_W_law.2.1 1601 = .ok (.iadd, 1) := by decide +kernel
theorem d_W_law_1602 : decode Y_W_law.2.1 1602 = .ok (.iaload, 1) := by decide +kernel
theorem d_W_law_1603 : decode Y_W_law.2.1 1603 = .ok (.invokevirtual 201, 3) := by decide +kernel
theorem d_W_law_1606 : decode Y_W_law.2.1 1606 = .ok (.if_icmp .eq 237, 3) := by decide +kernel
theorem d_W_law_1611 : decode Y_W_law.2.1 1611 = .ok (.aload_n 1, 1) := by decide +kernel
theorem d_W_law_1612 : decode Y_W_law.2.1 1612 = .ok (.aload_n 0, 1) := by decide +kernel
theorem d_W_law_1613 : decode Y_W_law.2.1 1613 = .ok (.iload 4, 2) := by decide +kernel
theorem d_W_law_1615 : decode Y_W_law.2.1 1615 = .ok (.iconst 1, 1) := by decide +kernel
theorem d_W_law_1616 : decode Y_W_law.2.1 1616 = .ok (.iadd, 1) := by decide +kernel
theorem d_W_law_1617 : decode Y_W_law.2.1 1617 = .ok (.iaload, 1) := by decide +kernel
theorem d_W_law_1618 : decode Y_W_law.2.1 1618 = .ok (.aload_n 0, 1) := by decide +kernel
theorem d_W_law_1619 : decode Y_W_law.2.1 1619 = .ok (.iload 4, 2) := by decide +kernel
theorem d_W_law_1621 : decode Y_W_law.2.1 1621 = .ok (.iconst 2, 1) := by decide +kernel
theorem d_W_law_1622 : decode Y_W_law.2.1 1622 = .ok (.iadd, 1) := by decide +kernel
theorem d_W_law_1623 : decode Y_W_law.2.1 1623 = .ok (.iaload, 1) := by decide +kernel
theorem d_W_law_1624 : decode Y_W_law.2.1 1624 = .ok (.invokevirtual 202, 3) := by decide +kernel
theorem d_W_law_1627 : decode Y_W_law.2.1 1627 = .ok (.aload_n 2, 1) := by decide +kernel
theorem d_W_law_1628 : decode Y_W_law.2.1 1628 = .ok (.aload_n 0, 1) := by decide +kernel
theorem d_W_law_1629 : decode Y_W_law.2.1 1629 = .ok (.iload 4, 2) := by decide +kernel
theorem d_W_law_1631 : decode Y_W_law.2.1 1631 = .ok (.iconst 1, 1) := by decide +kernel
theorem d_W_law_1632 : decode Y_W_law.2.1 1632 = .ok (.iadd, 1) := by decide +kernel
theorem d_W_law_1633 : decode Y_W_law.2.1 1633 = .ok (.iaload, 1) := by decide +kernel
theorem d_W_law_1634 : decode Y_W_law.2.1 1634 = .ok (.aload_n 0, 1) := by decide +kernel
theorem d_W_law_1635 : decode Y_W_law.2.1 1635 = .ok (.iload 4, 2) := by decide +kernel
theorem d_W_law_1637 : decode Y_W_law.2.1 1637 = .ok (.iconst 2, 1) := by decide +kernel
theorem d_W_law_1638 : decode Y_W_law.2.1 1638 = .ok (.iadd, 1) := by decide +kernel
theorem d_W_law_1639 : decode Y_W_law.2.1 1639 = .ok (.iaload, 1) := by decide +kernel
theorem d_W_law_1640 : decode Y_W_law.2.1 1640 = .ok (.invokevirtual 205, 3) := by decide +kernel
theorem d_W_law_1643 : decode Y_W_law.2.1 1643 = .ok (.if_icmp .eq 200, 3) := by decide +kernel
theorem d_W_law_1648 : decode Y_W_law.2.1 1648 = .ok (.aload_n 1, 1) := by decide +kernel
theorem d_W_law_1649 : decode Y_W_law.2.1 1649 = .ok (.aload_n 0, 1) := by decide +kernel
theorem d_W_law_1650 : decode Y_W_law.2.1 1650 = .ok (.iload 4, 2) := by decide +kernel
theorem d_W_law_1652 : decode Y_W_law.2.1 1652 = .ok (.iconst 1, 1) := by decide +kernel
theorem d_W_law_1653 : decode Y_W_law.2.1 1653 = .ok (.iadd, 1) := by decide +kernel
theorem d_W_law_1654 : decode Y_W_law.2.1 1654 = .ok (.iaload, 1) := by decide +kernel
theorem d_W_law_1655 : decode Y_W_law.2.1 1655 = .ok (.invokevirtual 206, 3) := by decide +kernel
theorem d_W_law_1658 : decode Y_W_law.2.1 1658 = .ok (.aload_n 2, 1) := by decide +kernel
theorem d_W_law_1659 : decode Y_W_law.2.1 1659 = .ok (.aload_n 0, 1) := by decide +kernel
theorem d_W_law_1660 : decode Y_W_law.2.1 1660 = .ok (.iload 4, 2) := by decide +kernel
theorem d_W_law_1662 : decode Y_W_law.2.1 1662 = .ok (.iconst 1, 1) := by decide +kernel
theorem d_W_law_1663 : decode Y_W_law.2.1 1663 = .ok (.iadd, 1) := by decide +kernel
theorem d_W_law_1664 : decode Y_W_law.2.1 1664 = .ok (.iaload, 1) := by decide +kernel
theorem d_W_law_1665 : decode Y_W_law.2.1 1665 = .ok (.invokevirtual 209, 3) := by decide +kernel
theorem d_W_law_1668 : decode Y_W_law.2.1 1668 = .ok (.if_icmp .eq 175, 3) := by decide +kernel
theorem d_W_law_1673 : decode Y_W_law.2.1 1673 = .ok (.aload_n 1, 1) := by decide +kernel
theorem d_W_law_1674 : decode Y_W_law.2.1 1674 = .ok (.aload_n 0, 1) := by decide +kernel
theorem d_W_law_1675 : decode Y_W_law.2.1 1675 = .ok (.iload 4, 2) := by decide +kernel
theorem d_W_law_1677 : decode Y_W_law.2.1 1677 = .ok (.iconst 1, 1) := by decide +kernel
theorem d_W_law_1678 : decode Y_W_law.2.1 1678 = .ok (.iadd, 1) := by decide +kernel
theorem d_W_law_1679 : decode Y_W_law.2.1 1679 = .ok (.iaload, 1) := by decide +kernel
theorem d_W_law_1680 : decode Y_W_law.2.1 1680 = .ok (.invokevirtual 210, 3) := by decide +kernel
theorem d_W_law_1683 : decode Y_W_law.2.1 1683 = .ok (.aload_n 2, 1) := by decide +kernel
theorem d_W_law_1684 : decode Y_W_law.2.1 1684 = .ok (.aload_n 0, 1) := by decide +kernel
theorem d_W_law_1685 : decode Y_W_law.2.1 1685 = .ok (.iload 4, 2) := by decide +kernel
theorem d_W_law_1687 : decode Y_W_law.2.1 1687 = .ok (.iconst 1, 1) := by decide +kernel
theorem d_W_law_1688 : decode Y_W_law.2.1 1688 = .ok (.iadd, 1) := by decide +kernel
theorem d_W_law_1689 : decode Y_W_law.2.1 1689 = .ok (.iaload, 1) := by decide +kernel
theorem d_W_law_1690 : decode Y_W_law.2.1 1690 = .ok (.invokevirtual 214, 3) := by decide +kernel
theorem d_W_law_1693 : decode Y_W_law.2.1 1693 = .ok (.if_icmp .eq 150, 3) := by decide +kernel
theorem d_W_law_1698 : decode Y_W_law.2.1 1698 = .ok (.aload_n 1, 1) := by decide +kernel
theorem d_W_law_1699 : decode Y_W_law.2.1 1699 = .ok (.invokevirtual 215, 3) := by decide +kernel
theorem d_W_law_1702 : decode Y_W_law.2.1 1702 = .ok (.aload_n 2, 1) := by decide +kernel
theorem d_W_law_1703 : decode Y_W_law.2.1 1703 = .ok (.invokevirtual 219, 3) := by decide +kernel
theorem d_W_law_1706 : decode Y_W_law.2.1 1706 = .ok (.if_icmp .eq 137, 3) := by decide +kernel
theorem d_W_law_1711 : decode Y_W_law.2.1 1711 = .ok (.aload_n 1, 1) := by decide +kernel
theorem d_W_law_1712 : decode Y_W_law.2.1 1712 = .ok (.invokevirtual 220, 3) := by decide +kernel
theorem d_W_law_1715 : decode Y_W_law.2.1 1715 = .ok (.aload_n 2, 1) := by decide +kernel
theorem d_W_law_1716 : decode Y_W_law.2.1 1716 = .ok (.invokevirtual 223, 3) := by decide +kernel
theorem d_W_law_1719 : decode Y_W_law.2.1 1719 = .ok (.if_icmp .eq 124, 3) := by decide +kernel
theorem d_W_law_1724 : decode Y_W_law.2.1 1724 = .ok (.aload_n 1, 1) := by decide +kernel
theorem d_W_law_1725 : decode Y_W_law.2.1 1725 = .ok (.aload_n 0, 1) := by decide +kernel
theorem d_W_law_1726 : decode Y_W_law.2.1 1726 = .ok (.iload 4, 2) := by decide +kernel
theorem d_W_law_1728 : decode Y_W_law.2.1 1728 = .ok (.iconst 1, 1) := by decide +kernel
theorem d_W_law_1729 : decode Y_W_law.2.1 1729 = .ok (.iadd, 1) := by decide +kernel
theorem d_W_law_1730 : decode Y_W_law.2.1 1730 = .ok (.iaload, 1) := by decide +kernel
theorem d_W_law_1731 : decode Y_W_law.2.1 1731 = .ok (.invokevirtual 224, 3) := by decide +kernel
theorem d_W_law_1734 : decode Y_W_law.2.1 1734 = .ok (.aload_n 2, 1) := by decide +kernel
theorem d_W_law_1735 : decode Y_W_law.2.1 1735 = .ok (.aload_n 0, 1) := by decide +kernel
theorem d_W_law_1736 : decode Y_W_law.2.1 1736 = .ok (.iload 4, 2) := by decide +kernel
theorem d_W_law_1738 : decode Y_W_law.2.1 1738 = .ok (.iconst 1, 1) := by decide +kernel
theorem d_W_law_1739 : decode Y_W_law.2.1 1739 = .ok (.iadd, 1) := by decide +kernel
theorem d_W_law_1740 : decode Y_W_law.2.1 1740 = .ok (.iaload, 1) := by decide +kernel
theorem d_W_law_1741 : decode Y_W_law.2.1 1741 = .ok (.invokevirtual 227, 3) := by decide +kernel
theorem d_W_law_1744 : decode Y_W_law.2.1 1744 = .ok (.if_icmp .eq 99, 3) := by decide +kernel
theorem d_W_law_1749 : decode Y_W_law.2.1 1749 = .ok (.aload_n 1, 1) := by decide +kernel
theorem d_W_law_1750 : decode Y_W_law.2.1 1750 = .ok (.aload_n 0, 1) := by decide +kernel
theorem d_W_law_1751 : decode Y_W_law.2.1 1751 = .ok (.iload 4, 2) := by decide +kernel
theorem d_W_law_1753 : decode Y_W_law.2.1 1753 = .ok (.iconst 1, 1) := by decide +kernel
theorem d_W_law_1754 : decode Y_W_law.2.1 1754 = .ok (.iadd, 1) := by decide +kernel
theorem d_W_law_1755 : decode Y_W_law.2.1 1755 = .ok (.iaload, 1) := by decide +kernel
theorem d_W_law_1756 : decode Y_W_law.2.1 1756 = .ok (.aload_n 3, 1) := by decide +kernel
theorem d_W_law_1757 : decode Y_W_law.2.1 1757 = .ok (.invokestatic 228, 3) := by decide +kernel
theorem d_W_law_1760 : decode Y_W_law.2.1 1760 = .ok (.istore 5, 2) := by decide +kernel
theorem d_W_law_1762 : decode Y_W_law.2.1 1762 = .ok (.aload_n 2, 1) := by decide +kernel
theorem d_W_law_1763 : decode Y_W_law.2.1 1763 = .ok (.aload_n 0, 1) := by decide +kernel
theorem d_W_law_1764 : decode Y_W_law.2.1 1764 = .ok (.iload 4, 2) := by decide +kernel
theorem d_W_law_1766 : decode Y_W_law.2.1 1766 = .ok (.iconst 1, 1) := by decide +kernel
theorem d_W_law_1767 : decode Y_W_law.2.1 1767 = .ok (.iadd, 1) := by decide +kernel
theorem d_W_law_1768 : decode Y_W_law.2.1 1768 = .ok (.iaload, 1) := by decide +kernel
theorem d_W_law_1769 : decode Y_W_law.2.1 1769 = .ok (.invokevirtual 233, 3) := by decide +kernel
theorem d_W_law_1772 : decode Y_W_law.2.1 1772 = .ok (.istore 6, 2) := by decide +kernel
theorem d_W_law_1774 : decode Y_W_law.2.1 1774 = .ok (.aload_n 2, 1) := by decide +kernel
theorem d_W_law_1775 : decode Y_W_law.2.1 1775 = .ok (.invokevirtual 234, 3) := by decide +kernel
theorem d_W_law_1778 : decode Y_W_law.2.1 1778 = .ok (.iload 5, 2) := by decide +kernel
theorem d_W_law_1780 : decode Y_W_law.2.1 1780 = .ok (.if_icmp .eq 5, 3) := by decide +kernel
theorem d_W_law_1785 : decode Y_W_law.2.1 1785 = .ok (.iload 5, 2) := by decide +kernel
theorem d_W_law_1787 : decode Y_W_law.2.1 1787 = .ok (.ifCond .ne 15, 3) := by decide +kernel
theorem d_W_law_1790 : decode Y_W_law.2.1 1790 = .ok (.aload_n 3, 1) := by decide +kernel
theorem d_W_law_1791 : decode Y_W_law.2.1 1791 = .ok (.iconst 0, 1) := by decide +kernel
theorem d_W_law_1792 : decode Y_W_law.2.1 1792 = .ok (.laload, 1) := by decide +kernel
theorem d_W_law_1793 : decode Y_W_law.2.1 1793 = .ok (.iload 6, 2) := by decide +kernel
theorem d_W_law_1795 : decode Y_W_law.2.1 1795 = .ok (.i2l, 1) := by decide +kernel
theorem d_W_law_1796 : decode Y_W_law.2.1 1796 = .ok (.lcmp, 1) := by decide +kernel
theorem d_W_law_1797 : decode Y_W_law.2.1 1797 = .ok (.ifCond .eq 5, 3) := by decide +kernel
theorem d_W_law_1802 : decode Y_W_law.2.1 1802 = .ok (.goto 41, 3) := by decide +kernel
theorem d_W_law_1805 : decode Y_W_law.2.1 1805 = .ok (.aload_n 1, 1) := by decide +kernel
theorem d_W_law_1806 : decode Y_W_law.2.1 1806 = .ok (.aload_n 0, 1) := by decide +kernel
theorem d_W_law_1807 : decode Y_W_law.2.1 1807 = .ok (.iload 4, 2) := by decide +kernel
theorem d_W_law_1809 : decode Y_W_law.2.1 1809 = .ok (.iconst 1, 1) := by decide +kernel
theorem d_W_law_1810 : decode Y_W_law.2.1 1810 = .ok (.iadd, 1) := by decide +kernel
theorem d_W_law_1811 : decode Y_W_law.2.1 1811 = .ok (.iaload, 1) := by decide +kernel
theorem d_W_law_1812 : decode Y_W_law.2.1 1812 = .ok (.invokevirtual 237, 3) := by decide +kernel
theorem d_W_law_1815 : decode Y_W_law.2.1 1815 = .ok (.aload_n 2, 1) := by decide +kernel
theorem d_W_law_1816 : decode Y_W_law.2.1 1816 = .ok (.aload_n 0, 1) := by decide +kernel
theorem d_W_law_1817 : decode Y_W_law.2.1 1817 = .ok (.iload 4, 2) := by decide +kernel
theorem d_W_law_1819 : decode Y_W_law.2.1 1819 = .ok (.iconst 1, 1) := by decide +kernel
theorem d_W_law_1820 : decode Y_W_law.2.1 1820 = .ok (.iadd, 1) := by decide +kernel
theorem d_W_law_1821 : decode Y_W_law.2.1 1821 = .ok (.iaload, 1) := by decide +kernel
theorem d_W_law_1822 : decode Y_W_law.2.1 1822 = .ok (.invokevirtual 240, 3) := by decide +kernel
theorem d_W_law_1825 : decode Y_W_law.2.1 1825 = .ok (.if_icmp .eq 18, 3) := by decide +kernel
theorem d_W_law_1830 : decode Y_W_law.2.1 1830 = .ok (.aload_n 1, 1) := by decide +kernel
theorem d_W_law_1831 : decode Y_W_law.2.1 1831 = .ok (.invokevirtual 241, 3) := by decide +kernel
theorem d_W_law_1834 : decode Y_W_law.2.1 1834 = .ok (.aload_n 2, 1) := by decide +kernel
theorem d_W_law_1835 : decode Y_W_law.2.1 1835 = .ok (.invokevirtual 244, 3) := by decide +kernel
theorem d_W_law_1838 : decode Y_W_law.2.1 1838 = .ok (.if_icmp .eq 5, 3) := by decide +kernel
theorem d_W_law_1843 : decode Y_W_law.2.1 1843 = .ok (.iinc 4 6, 3) := by decide +kernel
theorem d_W_law_1846 : decode Y_W_law.2.1 1846 = .ok (.goto (-1823), 3) := by decide +kernel
theorem d_W_law_1849 : decode Y_W_law.2.1 1849 = .ok (.iconst 1, 1) := by decide +kernel
theorem d_W_law_1850 : decode Y_W_law.2.1 1850 = .ok (.ireturn, 1) := by decide +kernel
