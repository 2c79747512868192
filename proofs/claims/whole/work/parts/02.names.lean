abbrev b_C_init : ByteArray := prog_1_method_1_code
def y_C_init : MethodName := ⟨"CacheLevels", "<init>", "(IIII)V"⟩
theorem cd_C_init : Cond.code y_C_init b_C_init 6 none ∈ tbW := tw 15 (by decide +kernel) (by decide +kernel)
theorem in_C_init : Cond.instanceMethod y_C_init ∈ tbW := tw 14 (by decide +kernel) (by decide +kernel)
theorem hd_C_init : y_C_init.cls = "CacheLevels" ∧ y_C_init.cls ≠ "java/lang/invoke/MethodHandle" ∧ y_C_init.cls ≠ "java/lang/invoke/VarHandle" ∧ (parseMethodDescriptor y_C_init.desc).map (fun d => d.parameters.length) = some 4 := by decide +kernel
abbrev b_Math_floorMod : ByteArray := prog_9_method_50_code
def y_Math_floorMod : MethodName := ⟨"java/lang/Math", "floorMod", "(II)I"⟩
theorem cd_Math_floorMod : Cond.code y_Math_floorMod b_Math_floorMod 3 (some .int) ∈ tbW := tw 21 (by decide +kernel) (by decide +kernel)
theorem st_Math_floorMod : Cond.static y_Math_floorMod ∈ tbW := tw 20 (by decide +kernel) (by decide +kernel)
theorem hd_Math_floorMod : y_Math_floorMod.cls ≠ "java/lang/invoke/MethodHandle" ∧ y_Math_floorMod.cls ≠ "java/lang/invoke/VarHandle" ∧ (parseMethodDescriptor y_Math_floorMod.desc).map (fun d => d.parameters.length) = some 2 := by decide +kernel
abbrev b_B_init : ByteArray := prog_2_method_1_code
def y_B_init : MethodName := ⟨"CacheLevels$Bank", "<init>", "(III)V"⟩
theorem cd_B_init : Cond.code y_B_init b_B_init 5 none ∈ tbW := tw 26 (by decide +kernel) (by decide +kernel)
theorem in_B_init : Cond.instanceMethod y_B_init ∈ tbW := tw 25 (by decide +kernel) (by decide +kernel)
theorem hd_B_init : y_B_init.cls = "CacheLevels$Bank" ∧ y_B_init.cls ≠ "java/lang/invoke/MethodHandle" ∧ y_B_init.cls ≠ "java/lang/invoke/VarHandle" ∧ (parseMethodDescriptor y_B_init.desc).map (fun d => d.parameters.length) = some 3 := by decide +kernel
abbrev b_Math_max : ByteArray := prog_9_method_65_code
def y_Math_max : MethodName := ⟨"java/lang/Math", "max", "(II)I"⟩
theorem cd_Math_max : Cond.code y_Math_max b_Math_max 2 (some .int) ∈ tbW := tw 30 (by decide +kernel) (by decide +kernel)
theorem st_Math_max : Cond.static y_Math_max ∈ tbW := tw 29 (by decide +kernel) (by decide +kernel)
theorem hd_Math_max : y_Math_max.cls ≠ "java/lang/invoke/MethodHandle" ∧ y_Math_max.cls ≠ "java/lang/invoke/VarHandle" ∧ (parseMethodDescriptor y_Math_max.desc).map (fun d => d.parameters.length) = some 2 := by decide +kernel
abbrev b_V_init : ByteArray := prog_3_method_1_code
def y_V_init : MethodName := ⟨"CacheLevels$Versions", "<init>", "()V"⟩
theorem cd_V_init : Cond.code y_V_init b_V_init 1 none ∈ tbW := tw 61 (by decide +kernel) (by decide +kernel)
theorem in_V_init : Cond.instanceMethod y_V_init ∈ tbW := tw 60 (by decide +kernel) (by decide +kernel)
theorem hd_V_init : y_V_init.cls = "CacheLevels$Versions" ∧ y_V_init.cls ≠ "java/lang/invoke/MethodHandle" ∧ y_V_init.cls ≠ "java/lang/invoke/VarHandle" ∧ (parseMethodDescriptor y_V_init.desc).map (fun d => d.parameters.length) = some 0 := by decide +kernel
abbrev b_C_bypass : ByteArray := prog_1_method_4_code
def y_C_bypass : MethodName := ⟨"CacheLevels", "bypass", "(II)Z"⟩
theorem cd_C_bypass : Cond.code y_C_bypass b_C_bypass 4 (some .boolean) ∈ tbW := tw 114 (by decide +kernel) (by decide +kernel)
theorem in_C_bypass : Cond.instanceMethod y_C_bypass ∈ tbW := tw 112 (by decide +kernel) (by decide +kernel)
theorem se_C_bypass : Cond.selects "CacheLevels" y_C_bypass y_C_bypass ∈ tbW := tw 113 (by decide +kernel) (by decide +kernel)
theorem hd_C_bypass : y_C_bypass.cls = "CacheLevels" ∧ y_C_bypass.cls ≠ "java/lang/invoke/MethodHandle" ∧ y_C_bypass.cls ≠ "java/lang/invoke/VarHandle" ∧ (parseMethodDescriptor y_C_bypass.desc).map (fun d => d.parameters.length) = some 2 := by decide +kernel
abbrev b_C_flush : ByteArray := prog_1_method_5_code
def y_C_flush : MethodName := ⟨"CacheLevels", "flush", "()I"⟩
theorem cd_C_flush : Cond.code y_C_flush b_C_flush 3 (some .int) ∈ tbW := tw 118 (by decide +kernel) (by decide +kernel)
theorem in_C_flush : Cond.instanceMethod y_C_flush ∈ tbW := tw 116 (by decide +kernel) (by decide +kernel)
theorem se_C_flush : Cond.selects "CacheLevels" y_C_flush y_C_flush ∈ tbW := tw 117 (by decide +kernel) (by decide +kernel)
theorem hd_C_flush : y_C_flush.cls = "CacheLevels" ∧ y_C_flush.cls ≠ "java/lang/invoke/MethodHandle" ∧ y_C_flush.cls ≠ "java/lang/invoke/VarHandle" ∧ (parseMethodDescriptor y_C_flush.desc).map (fun d => d.parameters.length) = some 0 := by decide +kernel
abbrev b_B_slots : ByteArray := prog_2_method_2_code
def y_B_slots : MethodName := ⟨"CacheLevels$Bank", "slots", "()I"⟩
theorem cd_B_slots : Cond.code y_B_slots b_B_slots 1 (some .int) ∈ tbW := tw 122 (by decide +kernel) (by decide +kernel)
theorem in_B_slots : Cond.instanceMethod y_B_slots ∈ tbW := tw 120 (by decide +kernel) (by decide +kernel)
theorem se_B_slots : Cond.selects "CacheLevels$Bank" y_B_slots y_B_slots ∈ tbW := tw 121 (by decide +kernel) (by decide +kernel)
theorem hd_B_slots : y_B_slots.cls = "CacheLevels$Bank" ∧ y_B_slots.cls ≠ "java/lang/invoke/MethodHandle" ∧ y_B_slots.cls ≠ "java/lang/invoke/VarHandle" ∧ (parseMethodDescriptor y_B_slots.desc).map (fun d => d.parameters.length) = some 0 := by decide +kernel
abbrev b_B_isWritten : ByteArray := prog_2_method_11_code
def y_B_isWritten : MethodName := ⟨"CacheLevels$Bank", "isWritten", "(I)Z"⟩
theorem cd_B_isWritten : Cond.code y_B_isWritten b_B_isWritten 2 (some .boolean) ∈ tbW := tw 126 (by decide +kernel) (by decide +kernel)
theorem in_B_isWritten : Cond.instanceMethod y_B_isWritten ∈ tbW := tw 124 (by decide +kernel) (by decide +kernel)
theorem se_B_isWritten : Cond.selects "CacheLevels$Bank" y_B_isWritten y_B_isWritten ∈ tbW := tw 125 (by decide +kernel) (by decide +kernel)
theorem hd_B_isWritten : y_B_isWritten.cls = "CacheLevels$Bank" ∧ y_B_isWritten.cls ≠ "java/lang/invoke/MethodHandle" ∧ y_B_isWritten.cls ≠ "java/lang/invoke/VarHandle" ∧ (parseMethodDescriptor y_B_isWritten.desc).map (fun d => d.parameters.length) = some 1 := by decide +kernel
abbrev b_B_isSlot : ByteArray := prog_2_method_7_code
def y_B_isSlot : MethodName := ⟨"CacheLevels$Bank", "isSlot", "(I)Z"⟩
theorem cd_B_isSlot : Cond.code y_B_isSlot b_B_isSlot 2 (some .boolean) ∈ tbW := tw 130 (by decide +kernel) (by decide +kernel)
theorem in_B_isSlot : Cond.instanceMethod y_B_isSlot ∈ tbW := tw 129 (by decide +kernel) (by decide +kernel)
theorem se_B_isSlot : Cond.selects y_B_isSlot.cls y_B_isSlot y_B_isSlot ∈ tbW := tp 0 (by decide +kernel) (by decide +kernel)
theorem hd_B_isSlot : y_B_isSlot.cls = "CacheLevels$Bank" ∧ y_B_isSlot.cls ≠ "java/lang/invoke/MethodHandle" ∧ y_B_isSlot.cls ≠ "java/lang/invoke/VarHandle" ∧ (parseMethodDescriptor y_B_isSlot.desc).map (fun d => d.parameters.length) = some 1 := by decide +kernel
abbrev b_B_lineAt : ByteArray := prog_2_method_8_code
def y_B_lineAt : MethodName := ⟨"CacheLevels$Bank", "lineAt", "(I)I"⟩
theorem cd_B_lineAt : Cond.code y_B_lineAt b_B_lineAt 2 (some .int) ∈ tbW := tw 134 (by decide +kernel) (by decide +kernel)
theorem in_B_lineAt : Cond.instanceMethod y_B_lineAt ∈ tbW := tw 132 (by decide +kernel) (by decide +kernel)
theorem se_B_lineAt : Cond.selects "CacheLevels$Bank" y_B_lineAt y_B_lineAt ∈ tbW := tw 133 (by decide +kernel) (by decide +kernel)
theorem hd_B_lineAt : y_B_lineAt.cls = "CacheLevels$Bank" ∧ y_B_lineAt.cls ≠ "java/lang/invoke/MethodHandle" ∧ y_B_lineAt.cls ≠ "java/lang/invoke/VarHandle" ∧ (parseMethodDescriptor y_B_lineAt.desc).map (fun d => d.parameters.length) = some 1 := by decide +kernel
abbrev b_C_writtenInFirst : ByteArray := prog_1_method_20_code
def y_C_writtenInFirst : MethodName := ⟨"CacheLevels", "writtenInFirst", "(I)I"⟩
theorem cd_C_writtenInFirst : Cond.code y_C_writtenInFirst b_C_writtenInFirst 4 (some .int) ∈ tbW := tw 138 (by decide +kernel) (by decide +kernel)
theorem in_C_writtenInFirst : Cond.instanceMethod y_C_writtenInFirst ∈ tbW := tw 137 (by decide +kernel) (by decide +kernel)
theorem se_C_writtenInFirst : Cond.selects y_C_writtenInFirst.cls y_C_writtenInFirst y_C_writtenInFirst ∈ tbW := tp 1 (by decide +kernel) (by decide +kernel)
theorem hd_C_writtenInFirst : y_C_writtenInFirst.cls = "CacheLevels" ∧ y_C_writtenInFirst.cls ≠ "java/lang/invoke/MethodHandle" ∧ y_C_writtenInFirst.cls ≠ "java/lang/invoke/VarHandle" ∧ (parseMethodDescriptor y_C_writtenInFirst.desc).map (fun d => d.parameters.length) = some 1 := by decide +kernel
abbrev b_B_find : ByteArray := prog_2_method_14_code
def y_B_find : MethodName := ⟨"CacheLevels$Bank", "find", "(II)I"⟩
theorem cd_B_find : Cond.code y_B_find b_B_find 5 (some .int) ∈ tbW := tw 142 (by decide +kernel) (by decide +kernel)
theorem in_B_find : Cond.instanceMethod y_B_find ∈ tbW := tw 140 (by decide +kernel) (by decide +kernel)
theorem se_B_find : Cond.selects "CacheLevels$Bank" y_B_find y_B_find ∈ tbW := tw 141 (by decide +kernel) (by decide +kernel)
theorem hd_B_find : y_B_find.cls = "CacheLevels$Bank" ∧ y_B_find.cls ≠ "java/lang/invoke/MethodHandle" ∧ y_B_find.cls ≠ "java/lang/invoke/VarHandle" ∧ (parseMethodDescriptor y_B_find.desc).map (fun d => d.parameters.length) = some 2 := by decide +kernel
abbrev b_B_placeOf : ByteArray := prog_2_method_3_code
def y_B_placeOf : MethodName := ⟨"CacheLevels$Bank", "placeOf", "(II)I"⟩
theorem cd_B_placeOf : Cond.code y_B_placeOf b_B_placeOf 3 (some .int) ∈ tbW := tw 146 (by decide +kernel) (by decide +kernel)
theorem in_B_placeOf : Cond.instanceMethod y_B_placeOf ∈ tbW := tw 144 (by decide +kernel) (by decide +kernel)
theorem se_B_placeOf : Cond.selects "CacheLevels$Bank" y_B_placeOf y_B_placeOf ∈ tbW := tw 145 (by decide +kernel) (by decide +kernel)
theorem hd_B_placeOf : y_B_placeOf.cls = "CacheLevels$Bank" ∧ y_B_placeOf.cls ≠ "java/lang/invoke/MethodHandle" ∧ y_B_placeOf.cls ≠ "java/lang/invoke/VarHandle" ∧ (parseMethodDescriptor y_B_placeOf.desc).map (fun d => d.parameters.length) = some 2 := by decide +kernel
abbrev b_B_size : ByteArray := prog_2_method_4_code
def y_B_size : MethodName := ⟨"CacheLevels$Bank", "size", "(I)I"⟩
theorem cd_B_size : Cond.code y_B_size b_B_size 2 (some .int) ∈ tbW := tw 151 (by decide +kernel) (by decide +kernel)
theorem in_B_size : Cond.instanceMethod y_B_size ∈ tbW := tw 149 (by decide +kernel) (by decide +kernel)
theorem se_B_size : Cond.selects "CacheLevels$Bank" y_B_size y_B_size ∈ tbW := tw 150 (by decide +kernel) (by decide +kernel)
theorem hd_B_size : y_B_size.cls = "CacheLevels$Bank" ∧ y_B_size.cls ≠ "java/lang/invoke/MethodHandle" ∧ y_B_size.cls ≠ "java/lang/invoke/VarHandle" ∧ (parseMethodDescriptor y_B_size.desc).map (fun d => d.parameters.length) = some 1 := by decide +kernel
abbrev b_B_versionAt : ByteArray := prog_2_method_9_code
def y_B_versionAt : MethodName := ⟨"CacheLevels$Bank", "versionAt", "(I)I"⟩
theorem cd_B_versionAt : Cond.code y_B_versionAt b_B_versionAt 2 (some .int) ∈ tbW := tw 156 (by decide +kernel) (by decide +kernel)
theorem in_B_versionAt : Cond.instanceMethod y_B_versionAt ∈ tbW := tw 154 (by decide +kernel) (by decide +kernel)
theorem se_B_versionAt : Cond.selects "CacheLevels$Bank" y_B_versionAt y_B_versionAt ∈ tbW := tw 155 (by decide +kernel) (by decide +kernel)
theorem hd_B_versionAt : y_B_versionAt.cls = "CacheLevels$Bank" ∧ y_B_versionAt.cls ≠ "java/lang/invoke/MethodHandle" ∧ y_B_versionAt.cls ≠ "java/lang/invoke/VarHandle" ∧ (parseMethodDescriptor y_B_versionAt.desc).map (fun d => d.parameters.length) = some 1 := by decide +kernel
abbrev b_V_writeBack : ByteArray := prog_3_method_3_code
def y_V_writeBack : MethodName := ⟨"CacheLevels$Versions", "writeBack", "(II)V"⟩
theorem cd_V_writeBack : Cond.code y_V_writeBack b_V_writeBack 4 none ∈ tbW := tw 160 (by decide +kernel) (by decide +kernel)
theorem in_V_writeBack : Cond.instanceMethod y_V_writeBack ∈ tbW := tw 158 (by decide +kernel) (by decide +kernel)
theorem se_V_writeBack : Cond.selects "CacheLevels$Versions" y_V_writeBack y_V_writeBack ∈ tbW := tw 159 (by decide +kernel) (by decide +kernel)
theorem hd_V_writeBack : y_V_writeBack.cls = "CacheLevels$Versions" ∧ y_V_writeBack.cls ≠ "java/lang/invoke/MethodHandle" ∧ y_V_writeBack.cls ≠ "java/lang/invoke/VarHandle" ∧ (parseMethodDescriptor y_V_writeBack.desc).map (fun d => d.parameters.length) = some 2 := by decide +kernel
abbrev b_V_indexOf : ByteArray := prog_3_method_5_code
def y_V_indexOf : MethodName := ⟨"CacheLevels$Versions", "indexOf", "(I)I"⟩
theorem cd_V_indexOf : Cond.code y_V_indexOf b_V_indexOf 3 (some .int) ∈ tbW := tw 164 (by decide +kernel) (by decide +kernel)
theorem in_V_indexOf : Cond.instanceMethod y_V_indexOf ∈ tbW := tw 163 (by decide +kernel) (by decide +kernel)
theorem se_V_indexOf : Cond.selects y_V_indexOf.cls y_V_indexOf y_V_indexOf ∈ tbW := tp 2 (by decide +kernel) (by decide +kernel)
theorem hd_V_indexOf : y_V_indexOf.cls = "CacheLevels$Versions" ∧ y_V_indexOf.cls ≠ "java/lang/invoke/MethodHandle" ∧ y_V_indexOf.cls ≠ "java/lang/invoke/VarHandle" ∧ (parseMethodDescriptor y_V_indexOf.desc).map (fun d => d.parameters.length) = some 1 := by decide +kernel
abbrev b_B_clear : ByteArray := prog_2_method_23_code
def y_B_clear : MethodName := ⟨"CacheLevels$Bank", "clear", "()V"⟩
theorem cd_B_clear : Cond.code y_B_clear b_B_clear 2 none ∈ tbW := tw 168 (by decide +kernel) (by decide +kernel)
theorem in_B_clear : Cond.instanceMethod y_B_clear ∈ tbW := tw 166 (by decide +kernel) (by decide +kernel)
theorem se_B_clear : Cond.selects "CacheLevels$Bank" y_B_clear y_B_clear ∈ tbW := tw 167 (by decide +kernel) (by decide +kernel)
theorem hd_B_clear : y_B_clear.cls = "CacheLevels$Bank" ∧ y_B_clear.cls ≠ "java/lang/invoke/MethodHandle" ∧ y_B_clear.cls ≠ "java/lang/invoke/VarHandle" ∧ (parseMethodDescriptor y_B_clear.desc).map (fun d => d.parameters.length) = some 0 := by decide +kernel
abbrev b_C_memory : ByteArray := prog_1_method_8_code
def y_C_memory : MethodName := ⟨"CacheLevels", "memory", "(I)I"⟩
theorem cd_C_memory : Cond.code y_C_memory b_C_memory 2 (some .int) ∈ tbW := tw 172 (by decide +kernel) (by decide +kernel)
theorem in_C_memory : Cond.instanceMethod y_C_memory ∈ tbW := tw 170 (by decide +kernel) (by decide +kernel)
theorem se_C_memory : Cond.selects "CacheLevels" y_C_memory y_C_memory ∈ tbW := tw 171 (by decide +kernel) (by decide +kernel)
theorem hd_C_memory : y_C_memory.cls = "CacheLevels" ∧ y_C_memory.cls ≠ "java/lang/invoke/MethodHandle" ∧ y_C_memory.cls ≠ "java/lang/invoke/VarHandle" ∧ (parseMethodDescriptor y_C_memory.desc).map (fun d => d.parameters.length) = some 1 := by decide +kernel
abbrev b_V_inMemory : ByteArray := prog_3_method_2_code
def y_V_inMemory : MethodName := ⟨"CacheLevels$Versions", "inMemory", "(I)I"⟩
theorem cd_V_inMemory : Cond.code y_V_inMemory b_V_inMemory 3 (some .int) ∈ tbW := tw 176 (by decide +kernel) (by decide +kernel)
theorem in_V_inMemory : Cond.instanceMethod y_V_inMemory ∈ tbW := tw 174 (by decide +kernel) (by decide +kernel)
theorem se_V_inMemory : Cond.selects "CacheLevels$Versions" y_V_inMemory y_V_inMemory ∈ tbW := tw 175 (by decide +kernel) (by decide +kernel)
theorem hd_V_inMemory : y_V_inMemory.cls = "CacheLevels$Versions" ∧ y_V_inMemory.cls ≠ "java/lang/invoke/MethodHandle" ∧ y_V_inMemory.cls ≠ "java/lang/invoke/VarHandle" ∧ (parseMethodDescriptor y_V_inMemory.desc).map (fun d => d.parameters.length) = some 1 := by decide +kernel
abbrev b_C_owner : ByteArray := prog_1_method_10_code
def y_C_owner : MethodName := ⟨"CacheLevels", "owner", "(I)I"⟩
theorem cd_C_owner : Cond.code y_C_owner b_C_owner 3 (some .int) ∈ tbW := tw 180 (by decide +kernel) (by decide +kernel)
theorem in_C_owner : Cond.instanceMethod y_C_owner ∈ tbW := tw 178 (by decide +kernel) (by decide +kernel)
theorem se_C_owner : Cond.selects "CacheLevels" y_C_owner y_C_owner ∈ tbW := tw 179 (by decide +kernel) (by decide +kernel)
theorem hd_C_owner : y_C_owner.cls = "CacheLevels" ∧ y_C_owner.cls ≠ "java/lang/invoke/MethodHandle" ∧ y_C_owner.cls ≠ "java/lang/invoke/VarHandle" ∧ (parseMethodDescriptor y_C_owner.desc).map (fun d => d.parameters.length) = some 1 := by decide +kernel
abbrev b_B_ownerAt : ByteArray := prog_2_method_10_code
def y_B_ownerAt : MethodName := ⟨"CacheLevels$Bank", "ownerAt", "(I)I"⟩
theorem cd_B_ownerAt : Cond.code y_B_ownerAt b_B_ownerAt 2 (some .int) ∈ tbW := tw 184 (by decide +kernel) (by decide +kernel)
theorem in_B_ownerAt : Cond.instanceMethod y_B_ownerAt ∈ tbW := tw 182 (by decide +kernel) (by decide +kernel)
theorem se_B_ownerAt : Cond.selects "CacheLevels$Bank" y_B_ownerAt y_B_ownerAt ∈ tbW := tw 183 (by decide +kernel) (by decide +kernel)
theorem hd_B_ownerAt : y_B_ownerAt.cls = "CacheLevels$Bank" ∧ y_B_ownerAt.cls ≠ "java/lang/invoke/MethodHandle" ∧ y_B_ownerAt.cls ≠ "java/lang/invoke/VarHandle" ∧ (parseMethodDescriptor y_B_ownerAt.desc).map (fun d => d.parameters.length) = some 1 := by decide +kernel
abbrev b_C_directory : ByteArray := prog_1_method_11_code
def y_C_directory : MethodName := ⟨"CacheLevels", "directory", "(I)I"⟩
theorem cd_C_directory : Cond.code y_C_directory b_C_directory 4 (some .int) ∈ tbW := tw 188 (by decide +kernel) (by decide +kernel)
theorem in_C_directory : Cond.instanceMethod y_C_directory ∈ tbW := tw 186 (by decide +kernel) (by decide +kernel)
theorem se_C_directory : Cond.selects "CacheLevels" y_C_directory y_C_directory ∈ tbW := tw 187 (by decide +kernel) (by decide +kernel)
theorem hd_C_directory : y_C_directory.cls = "CacheLevels" ∧ y_C_directory.cls ≠ "java/lang/invoke/MethodHandle" ∧ y_C_directory.cls ≠ "java/lang/invoke/VarHandle" ∧ (parseMethodDescriptor y_C_directory.desc).map (fun d => d.parameters.length) = some 1 := by decide +kernel
abbrev b_C_count : ByteArray := prog_1_method_13_code
def y_C_count : MethodName := ⟨"CacheLevels", "count", "(I)I"⟩
theorem cd_C_count : Cond.code y_C_count b_C_count 2 (some .int) ∈ tbW := tw 192 (by decide +kernel) (by decide +kernel)
theorem in_C_count : Cond.instanceMethod y_C_count ∈ tbW := tw 190 (by decide +kernel) (by decide +kernel)
theorem se_C_count : Cond.selects "CacheLevels" y_C_count y_C_count ∈ tbW := tw 191 (by decide +kernel) (by decide +kernel)
theorem hd_C_count : y_C_count.cls = "CacheLevels" ∧ y_C_count.cls ≠ "java/lang/invoke/MethodHandle" ∧ y_C_count.cls ≠ "java/lang/invoke/VarHandle" ∧ (parseMethodDescriptor y_C_count.desc).map (fun d => d.parameters.length) = some 1 := by decide +kernel
abbrev b_B_total : ByteArray := prog_2_method_6_code
def y_B_total : MethodName := ⟨"CacheLevels$Bank", "total", "()I"⟩
theorem cd_B_total : Cond.code y_B_total b_B_total 3 (some .int) ∈ tbW := tw 196 (by decide +kernel) (by decide +kernel)
theorem in_B_total : Cond.instanceMethod y_B_total ∈ tbW := tw 194 (by decide +kernel) (by decide +kernel)
theorem se_B_total : Cond.selects "CacheLevels$Bank" y_B_total y_B_total ∈ tbW := tw 195 (by decide +kernel) (by decide +kernel)
theorem hd_B_total : y_B_total.cls = "CacheLevels$Bank" ∧ y_B_total.cls ≠ "java/lang/invoke/MethodHandle" ∧ y_B_total.cls ≠ "java/lang/invoke/VarHandle" ∧ (parseMethodDescriptor y_B_total.desc).map (fun d => d.parameters.length) = some 0 := by decide +kernel
abbrev b_L_cell : ByteArray := method_2_code
def y_L_cell : MethodName := ⟨"CacheLevelsLaw", "cell", "([II)I"⟩
theorem cd_L_cell : Cond.code y_L_cell b_L_cell 2 (some .int) ∈ tbW := tw 199 (by decide +kernel) (by decide +kernel)
theorem st_L_cell : Cond.static y_L_cell ∈ tbW := tw 198 (by decide +kernel) (by decide +kernel)
theorem hd_L_cell : y_L_cell.cls ≠ "java/lang/invoke/MethodHandle" ∧ y_L_cell.cls ≠ "java/lang/invoke/VarHandle" ∧ (parseMethodDescriptor y_L_cell.desc).map (fun d => d.parameters.length) = some 2 := by decide +kernel
abbrev b_L_access : ByteArray := method_3_code
def y_L_access : MethodName := ⟨"CacheLevelsLaw", "access", "(LCacheLevels;III[J)I"⟩
theorem st_L_access : Cond.static y_L_access ∈ tbW := tw 201 (by decide +kernel) (by decide +kernel)
theorem hd_L_access : y_L_access.cls ≠ "java/lang/invoke/MethodHandle" ∧ y_L_access.cls ≠ "java/lang/invoke/VarHandle" ∧ (parseMethodDescriptor y_L_access.desc).map (fun d => d.parameters.length) = some 5 := by decide +kernel
abbrev b_C_access : ByteArray := prog_1_method_2_code
def y_C_access : MethodName := ⟨"CacheLevels", "access", "(III)I"⟩
theorem cd_C_access : Cond.code y_C_access b_C_access 6 (some .int) ∈ tbW := tw 208 (by decide +kernel) (by decide +kernel)
theorem in_C_access : Cond.instanceMethod y_C_access ∈ tbW := tw 206 (by decide +kernel) (by decide +kernel)
theorem se_C_access : Cond.selects "CacheLevels" y_C_access y_C_access ∈ tbW := tw 207 (by decide +kernel) (by decide +kernel)
theorem hd_C_access : y_C_access.cls = "CacheLevels" ∧ y_C_access.cls ≠ "java/lang/invoke/MethodHandle" ∧ y_C_access.cls ≠ "java/lang/invoke/VarHandle" ∧ (parseMethodDescriptor y_C_access.desc).map (fun d => d.parameters.length) = some 3 := by decide +kernel
abbrev b_C_requireCore : ByteArray := prog_1_method_14_code
def y_C_requireCore : MethodName := ⟨"CacheLevels", "requireCore", "(I)V"⟩
theorem cd_C_requireCore : Cond.code y_C_requireCore b_C_requireCore 2 none ∈ tbW := tw 212 (by decide +kernel) (by decide +kernel)
theorem in_C_requireCore : Cond.instanceMethod y_C_requireCore ∈ tbW := tw 211 (by decide +kernel) (by decide +kernel)
theorem se_C_requireCore : Cond.selects y_C_requireCore.cls y_C_requireCore y_C_requireCore ∈ tbW := tp 3 (by decide +kernel) (by decide +kernel)
theorem hd_C_requireCore : y_C_requireCore.cls = "CacheLevels" ∧ y_C_requireCore.cls ≠ "java/lang/invoke/MethodHandle" ∧ y_C_requireCore.cls ≠ "java/lang/invoke/VarHandle" ∧ (parseMethodDescriptor y_C_requireCore.desc).map (fun d => d.parameters.length) = some 1 := by decide +kernel
abbrev b_C_tally : ByteArray := prog_1_method_18_code
def y_C_tally : MethodName := ⟨"CacheLevels", "tally", "(II)V"⟩
theorem cd_C_tally : Cond.code y_C_tally b_C_tally 4 none ∈ tbW := tw 299 (by decide +kernel) (by decide +kernel)
theorem in_C_tally : Cond.instanceMethod y_C_tally ∈ tbW := tw 298 (by decide +kernel) (by decide +kernel)
theorem se_C_tally : Cond.selects y_C_tally.cls y_C_tally y_C_tally ∈ tbW := tp 5 (by decide +kernel) (by decide +kernel)
theorem hd_C_tally : y_C_tally.cls = "CacheLevels" ∧ y_C_tally.cls ≠ "java/lang/invoke/MethodHandle" ∧ y_C_tally.cls ≠ "java/lang/invoke/VarHandle" ∧ (parseMethodDescriptor y_C_tally.desc).map (fun d => d.parameters.length) = some 2 := by decide +kernel
abbrev b_B_useLast : ByteArray := prog_2_method_20_code
def y_B_useLast : MethodName := ⟨"CacheLevels$Bank", "useLast", "(I)V"⟩
theorem cd_B_useLast : Cond.code y_B_useLast b_B_useLast 4 none ∈ tbW := tw 303 (by decide +kernel) (by decide +kernel)
theorem in_B_useLast : Cond.instanceMethod y_B_useLast ∈ tbW := tw 301 (by decide +kernel) (by decide +kernel)
theorem se_B_useLast : Cond.selects "CacheLevels$Bank" y_B_useLast y_B_useLast ∈ tbW := tw 302 (by decide +kernel) (by decide +kernel)
theorem hd_B_useLast : y_B_useLast.cls = "CacheLevels$Bank" ∧ y_B_useLast.cls ≠ "java/lang/invoke/MethodHandle" ∧ y_B_useLast.cls ≠ "java/lang/invoke/VarHandle" ∧ (parseMethodDescriptor y_B_useLast.desc).map (fun d => d.parameters.length) = some 1 := by decide +kernel
abbrev b_B_swap : ByteArray := prog_2_method_22_code
def y_B_swap : MethodName := ⟨"CacheLevels$Bank", "swap", "(II)V"⟩
theorem cd_B_swap : Cond.code y_B_swap b_B_swap 7 none ∈ tbW := tw 307 (by decide +kernel) (by decide +kernel)
theorem in_B_swap : Cond.instanceMethod y_B_swap ∈ tbW := tw 306 (by decide +kernel) (by decide +kernel)
theorem se_B_swap : Cond.selects y_B_swap.cls y_B_swap y_B_swap ∈ tbW := tp 6 (by decide +kernel) (by decide +kernel)
theorem hd_B_swap : y_B_swap.cls = "CacheLevels$Bank" ∧ y_B_swap.cls ≠ "java/lang/invoke/MethodHandle" ∧ y_B_swap.cls ≠ "java/lang/invoke/VarHandle" ∧ (parseMethodDescriptor y_B_swap.desc).map (fun d => d.parameters.length) = some 2 := by decide +kernel
abbrev b_C_handOver : ByteArray := prog_1_method_21_code
def y_C_handOver : MethodName := ⟨"CacheLevels", "handOver", "(I)V"⟩
theorem cd_C_handOver : Cond.code y_C_handOver b_C_handOver 3 none ∈ tbW := tw 311 (by decide +kernel) (by decide +kernel)
theorem in_C_handOver : Cond.instanceMethod y_C_handOver ∈ tbW := tw 310 (by decide +kernel) (by decide +kernel)
theorem se_C_handOver : Cond.selects y_C_handOver.cls y_C_handOver y_C_handOver ∈ tbW := tp 7 (by decide +kernel) (by decide +kernel)
theorem hd_C_handOver : y_C_handOver.cls = "CacheLevels" ∧ y_C_handOver.cls ≠ "java/lang/invoke/MethodHandle" ∧ y_C_handOver.cls ≠ "java/lang/invoke/VarHandle" ∧ (parseMethodDescriptor y_C_handOver.desc).map (fun d => d.parameters.length) = some 1 := by decide +kernel
abbrev b_B_clean : ByteArray := prog_2_method_12_code
def y_B_clean : MethodName := ⟨"CacheLevels$Bank", "clean", "(I)V"⟩
theorem cd_B_clean : Cond.code y_B_clean b_B_clean 2 none ∈ tbW := tw 315 (by decide +kernel) (by decide +kernel)
theorem in_B_clean : Cond.instanceMethod y_B_clean ∈ tbW := tw 313 (by decide +kernel) (by decide +kernel)
theorem se_B_clean : Cond.selects "CacheLevels$Bank" y_B_clean y_B_clean ∈ tbW := tw 314 (by decide +kernel) (by decide +kernel)
theorem hd_B_clean : y_B_clean.cls = "CacheLevels$Bank" ∧ y_B_clean.cls ≠ "java/lang/invoke/MethodHandle" ∧ y_B_clean.cls ≠ "java/lang/invoke/VarHandle" ∧ (parseMethodDescriptor y_B_clean.desc).map (fun d => d.parameters.length) = some 1 := by decide +kernel
abbrev b_C_writeDown : ByteArray := prog_1_method_22_code
def y_C_writeDown : MethodName := ⟨"CacheLevels", "writeDown", "(II)V"⟩
theorem cd_C_writeDown : Cond.code y_C_writeDown b_C_writeDown 4 none ∈ tbW := tw 319 (by decide +kernel) (by decide +kernel)
theorem in_C_writeDown : Cond.instanceMethod y_C_writeDown ∈ tbW := tw 318 (by decide +kernel) (by decide +kernel)
theorem se_C_writeDown : Cond.selects y_C_writeDown.cls y_C_writeDown y_C_writeDown ∈ tbW := tp 8 (by decide +kernel) (by decide +kernel)
theorem hd_C_writeDown : y_C_writeDown.cls = "CacheLevels" ∧ y_C_writeDown.cls ≠ "java/lang/invoke/MethodHandle" ∧ y_C_writeDown.cls ≠ "java/lang/invoke/VarHandle" ∧ (parseMethodDescriptor y_C_writeDown.desc).map (fun d => d.parameters.length) = some 2 := by decide +kernel
abbrev b_B_rewrite : ByteArray := prog_2_method_13_code
def y_B_rewrite : MethodName := ⟨"CacheLevels$Bank", "rewrite", "(II)V"⟩
theorem cd_B_rewrite : Cond.code y_B_rewrite b_B_rewrite 3 none ∈ tbW := tw 323 (by decide +kernel) (by decide +kernel)
theorem in_B_rewrite : Cond.instanceMethod y_B_rewrite ∈ tbW := tw 321 (by decide +kernel) (by decide +kernel)
theorem se_B_rewrite : Cond.selects "CacheLevels$Bank" y_B_rewrite y_B_rewrite ∈ tbW := tw 322 (by decide +kernel) (by decide +kernel)
theorem hd_B_rewrite : y_B_rewrite.cls = "CacheLevels$Bank" ∧ y_B_rewrite.cls ≠ "java/lang/invoke/MethodHandle" ∧ y_B_rewrite.cls ≠ "java/lang/invoke/VarHandle" ∧ (parseMethodDescriptor y_B_rewrite.desc).map (fun d => d.parameters.length) = some 2 := by decide +kernel
abbrev b_C_bring : ByteArray := prog_1_method_23_code
def y_C_bring : MethodName := ⟨"CacheLevels", "bring", "(II)I"⟩
theorem cd_C_bring : Cond.code y_C_bring b_C_bring 6 (some .int) ∈ tbW := tw 327 (by decide +kernel) (by decide +kernel)
theorem in_C_bring : Cond.instanceMethod y_C_bring ∈ tbW := tw 326 (by decide +kernel) (by decide +kernel)
theorem se_C_bring : Cond.selects y_C_bring.cls y_C_bring y_C_bring ∈ tbW := tp 9 (by decide +kernel) (by decide +kernel)
theorem hd_C_bring : y_C_bring.cls = "CacheLevels" ∧ y_C_bring.cls ≠ "java/lang/invoke/MethodHandle" ∧ y_C_bring.cls ≠ "java/lang/invoke/VarHandle" ∧ (parseMethodDescriptor y_C_bring.desc).map (fun d => d.parameters.length) = some 2 := by decide +kernel
abbrev b_C_passesBy : ByteArray := prog_1_method_19_code
def y_C_passesBy : MethodName := ⟨"CacheLevels", "passesBy", "(I)Z"⟩
theorem cd_C_passesBy : Cond.code y_C_passesBy b_C_passesBy 2 (some .boolean) ∈ tbW := tw 331 (by decide +kernel) (by decide +kernel)
theorem in_C_passesBy : Cond.instanceMethod y_C_passesBy ∈ tbW := tw 330 (by decide +kernel) (by decide +kernel)
theorem se_C_passesBy : Cond.selects y_C_passesBy.cls y_C_passesBy y_C_passesBy ∈ tbW := tp 10 (by decide +kernel) (by decide +kernel)
theorem hd_C_passesBy : y_C_passesBy.cls = "CacheLevels" ∧ y_C_passesBy.cls ≠ "java/lang/invoke/MethodHandle" ∧ y_C_passesBy.cls ≠ "java/lang/invoke/VarHandle" ∧ (parseMethodDescriptor y_C_passesBy.desc).map (fun d => d.parameters.length) = some 1 := by decide +kernel
abbrev b_C_comeIntoSecond : ByteArray := prog_1_method_26_code
def y_C_comeIntoSecond : MethodName := ⟨"CacheLevels", "comeIntoSecond", "(IIIZ)V"⟩
theorem cd_C_comeIntoSecond : Cond.code y_C_comeIntoSecond b_C_comeIntoSecond 7 none ∈ tbW := tw 335 (by decide +kernel) (by decide +kernel)
theorem in_C_comeIntoSecond : Cond.instanceMethod y_C_comeIntoSecond ∈ tbW := tw 334 (by decide +kernel) (by decide +kernel)
theorem se_C_comeIntoSecond : Cond.selects y_C_comeIntoSecond.cls y_C_comeIntoSecond y_C_comeIntoSecond ∈ tbW := tp 11 (by decide +kernel) (by decide +kernel)
theorem hd_C_comeIntoSecond : y_C_comeIntoSecond.cls = "CacheLevels" ∧ y_C_comeIntoSecond.cls ≠ "java/lang/invoke/MethodHandle" ∧ y_C_comeIntoSecond.cls ≠ "java/lang/invoke/VarHandle" ∧ (parseMethodDescriptor y_C_comeIntoSecond.desc).map (fun d => d.parameters.length) = some 4 := by decide +kernel
abbrev b_B_ownedAt : ByteArray := prog_2_method_17_code
def y_B_ownedAt : MethodName := ⟨"CacheLevels$Bank", "ownedAt", "(II)I"⟩
theorem cd_B_ownedAt : Cond.code y_B_ownedAt b_B_ownedAt 5 (some .int) ∈ tbW := tw 340 (by decide +kernel) (by decide +kernel)
theorem in_B_ownedAt : Cond.instanceMethod y_B_ownedAt ∈ tbW := tw 338 (by decide +kernel) (by decide +kernel)
theorem se_B_ownedAt : Cond.selects "CacheLevels$Bank" y_B_ownedAt y_B_ownedAt ∈ tbW := tw 339 (by decide +kernel) (by decide +kernel)
theorem hd_B_ownedAt : y_B_ownedAt.cls = "CacheLevels$Bank" ∧ y_B_ownedAt.cls ≠ "java/lang/invoke/MethodHandle" ∧ y_B_ownedAt.cls ≠ "java/lang/invoke/VarHandle" ∧ (parseMethodDescriptor y_B_ownedAt.desc).map (fun d => d.parameters.length) = some 2 := by decide +kernel
abbrev b_B_oldestOwned : ByteArray := prog_2_method_16_code
def y_B_oldestOwned : MethodName := ⟨"CacheLevels$Bank", "oldestOwned", "(II)I"⟩
theorem cd_B_oldestOwned : Cond.code y_B_oldestOwned b_B_oldestOwned 4 (some .int) ∈ tbW := tw 345 (by decide +kernel) (by decide +kernel)
theorem in_B_oldestOwned : Cond.instanceMethod y_B_oldestOwned ∈ tbW := tw 343 (by decide +kernel) (by decide +kernel)
theorem se_B_oldestOwned : Cond.selects "CacheLevels$Bank" y_B_oldestOwned y_B_oldestOwned ∈ tbW := tw 344 (by decide +kernel) (by decide +kernel)
theorem hd_B_oldestOwned : y_B_oldestOwned.cls = "CacheLevels$Bank" ∧ y_B_oldestOwned.cls ≠ "java/lang/invoke/MethodHandle" ∧ y_B_oldestOwned.cls ≠ "java/lang/invoke/VarHandle" ∧ (parseMethodDescriptor y_B_oldestOwned.desc).map (fun d => d.parameters.length) = some 2 := by decide +kernel
abbrev b_C_leaveSecond : ByteArray := prog_1_method_27_code
def y_C_leaveSecond : MethodName := ⟨"CacheLevels", "leaveSecond", "(I)V"⟩
theorem cd_C_leaveSecond : Cond.code y_C_leaveSecond b_C_leaveSecond 7 none ∈ tbW := tw 349 (by decide +kernel) (by decide +kernel)
theorem in_C_leaveSecond : Cond.instanceMethod y_C_leaveSecond ∈ tbW := tw 348 (by decide +kernel) (by decide +kernel)
theorem se_C_leaveSecond : Cond.selects y_C_leaveSecond.cls y_C_leaveSecond y_C_leaveSecond ∈ tbW := tp 12 (by decide +kernel) (by decide +kernel)
theorem hd_C_leaveSecond : y_C_leaveSecond.cls = "CacheLevels" ∧ y_C_leaveSecond.cls ≠ "java/lang/invoke/MethodHandle" ∧ y_C_leaveSecond.cls ≠ "java/lang/invoke/VarHandle" ∧ (parseMethodDescriptor y_C_leaveSecond.desc).map (fun d => d.parameters.length) = some 1 := by decide +kernel
abbrev b_B_drop : ByteArray := prog_2_method_21_code
def y_B_drop : MethodName := ⟨"CacheLevels$Bank", "drop", "(I)V"⟩
theorem cd_B_drop : Cond.code y_B_drop b_B_drop 5 none ∈ tbW := tw 353 (by decide +kernel) (by decide +kernel)
theorem in_B_drop : Cond.instanceMethod y_B_drop ∈ tbW := tw 351 (by decide +kernel) (by decide +kernel)
theorem se_B_drop : Cond.selects "CacheLevels$Bank" y_B_drop y_B_drop ∈ tbW := tw 352 (by decide +kernel) (by decide +kernel)
theorem hd_B_drop : y_B_drop.cls = "CacheLevels$Bank" ∧ y_B_drop.cls ≠ "java/lang/invoke/MethodHandle" ∧ y_B_drop.cls ≠ "java/lang/invoke/VarHandle" ∧ (parseMethodDescriptor y_B_drop.desc).map (fun d => d.parameters.length) = some 1 := by decide +kernel
abbrev b_B_oldest : ByteArray := prog_2_method_15_code
def y_B_oldest : MethodName := ⟨"CacheLevels$Bank", "oldest", "(I)I"⟩
theorem cd_B_oldest : Cond.code y_B_oldest b_B_oldest 3 (some .int) ∈ tbW := tw 357 (by decide +kernel) (by decide +kernel)
theorem in_B_oldest : Cond.instanceMethod y_B_oldest ∈ tbW := tw 355 (by decide +kernel) (by decide +kernel)
theorem se_B_oldest : Cond.selects "CacheLevels$Bank" y_B_oldest y_B_oldest ∈ tbW := tw 356 (by decide +kernel) (by decide +kernel)
theorem hd_B_oldest : y_B_oldest.cls = "CacheLevels$Bank" ∧ y_B_oldest.cls ≠ "java/lang/invoke/MethodHandle" ∧ y_B_oldest.cls ≠ "java/lang/invoke/VarHandle" ∧ (parseMethodDescriptor y_B_oldest.desc).map (fun d => d.parameters.length) = some 1 := by decide +kernel
abbrev b_B_isFull : ByteArray := prog_2_method_5_code
def y_B_isFull : MethodName := ⟨"CacheLevels$Bank", "isFull", "(I)Z"⟩
theorem cd_B_isFull : Cond.code y_B_isFull b_B_isFull 2 (some .boolean) ∈ tbW := tw 362 (by decide +kernel) (by decide +kernel)
theorem in_B_isFull : Cond.instanceMethod y_B_isFull ∈ tbW := tw 360 (by decide +kernel) (by decide +kernel)
theorem se_B_isFull : Cond.selects "CacheLevels$Bank" y_B_isFull y_B_isFull ∈ tbW := tw 361 (by decide +kernel) (by decide +kernel)
theorem hd_B_isFull : y_B_isFull.cls = "CacheLevels$Bank" ∧ y_B_isFull.cls ≠ "java/lang/invoke/MethodHandle" ∧ y_B_isFull.cls ≠ "java/lang/invoke/VarHandle" ∧ (parseMethodDescriptor y_B_isFull.desc).map (fun d => d.parameters.length) = some 1 := by decide +kernel
abbrev b_B_put : ByteArray := prog_2_method_19_code
def y_B_put : MethodName := ⟨"CacheLevels$Bank", "put", "(IIIZI)V"⟩
theorem cd_B_put : Cond.code y_B_put b_B_put 7 none ∈ tbW := tw 367 (by decide +kernel) (by decide +kernel)
theorem in_B_put : Cond.instanceMethod y_B_put ∈ tbW := tw 365 (by decide +kernel) (by decide +kernel)
theorem se_B_put : Cond.selects "CacheLevels$Bank" y_B_put y_B_put ∈ tbW := tw 366 (by decide +kernel) (by decide +kernel)
theorem hd_B_put : y_B_put.cls = "CacheLevels$Bank" ∧ y_B_put.cls ≠ "java/lang/invoke/MethodHandle" ∧ y_B_put.cls ≠ "java/lang/invoke/VarHandle" ∧ (parseMethodDescriptor y_B_put.desc).map (fun d => d.parameters.length) = some 5 := by decide +kernel
abbrev b_C_makeRoomInFirst : ByteArray := prog_1_method_25_code
def y_C_makeRoomInFirst : MethodName := ⟨"CacheLevels", "makeRoomInFirst", "(II)V"⟩
theorem cd_C_makeRoomInFirst : Cond.code y_C_makeRoomInFirst b_C_makeRoomInFirst 8 none ∈ tbW := tw 373 (by decide +kernel) (by decide +kernel)
theorem in_C_makeRoomInFirst : Cond.instanceMethod y_C_makeRoomInFirst ∈ tbW := tw 372 (by decide +kernel) (by decide +kernel)
theorem se_C_makeRoomInFirst : Cond.selects y_C_makeRoomInFirst.cls y_C_makeRoomInFirst y_C_makeRoomInFirst ∈ tbW := tp 13 (by decide +kernel) (by decide +kernel)
theorem hd_C_makeRoomInFirst : y_C_makeRoomInFirst.cls = "CacheLevels" ∧ y_C_makeRoomInFirst.cls ≠ "java/lang/invoke/MethodHandle" ∧ y_C_makeRoomInFirst.cls ≠ "java/lang/invoke/VarHandle" ∧ (parseMethodDescriptor y_C_makeRoomInFirst.desc).map (fun d => d.parameters.length) = some 2 := by decide +kernel
abbrev b_C_write : ByteArray := prog_1_method_24_code
def y_C_write : MethodName := ⟨"CacheLevels", "write", "(II)V"⟩
theorem cd_C_write : Cond.code y_C_write b_C_write 5 none ∈ tbW := tw 378 (by decide +kernel) (by decide +kernel)
theorem in_C_write : Cond.instanceMethod y_C_write ∈ tbW := tw 377 (by decide +kernel) (by decide +kernel)
theorem se_C_write : Cond.selects y_C_write.cls y_C_write y_C_write ∈ tbW := tp 14 (by decide +kernel) (by decide +kernel)
theorem hd_C_write : y_C_write.cls = "CacheLevels" ∧ y_C_write.cls ≠ "java/lang/invoke/MethodHandle" ∧ y_C_write.cls ≠ "java/lang/invoke/VarHandle" ∧ (parseMethodDescriptor y_C_write.desc).map (fun d => d.parameters.length) = some 2 := by decide +kernel
abbrev b_V_makeNext : ByteArray := prog_3_method_4_code
def y_V_makeNext : MethodName := ⟨"CacheLevels$Versions", "makeNext", "(I)I"⟩
theorem cd_V_makeNext : Cond.code y_V_makeNext b_V_makeNext 3 (some .int) ∈ tbW := tw 382 (by decide +kernel) (by decide +kernel)
theorem in_V_makeNext : Cond.instanceMethod y_V_makeNext ∈ tbW := tw 380 (by decide +kernel) (by decide +kernel)
theorem se_V_makeNext : Cond.selects "CacheLevels$Versions" y_V_makeNext y_V_makeNext ∈ tbW := tw 381 (by decide +kernel) (by decide +kernel)
theorem hd_V_makeNext : y_V_makeNext.cls = "CacheLevels$Versions" ∧ y_V_makeNext.cls ≠ "java/lang/invoke/MethodHandle" ∧ y_V_makeNext.cls ≠ "java/lang/invoke/VarHandle" ∧ (parseMethodDescriptor y_V_makeNext.desc).map (fun d => d.parameters.length) = some 1 := by decide +kernel
abbrev b_L_quota : ByteArray := method_4_code
def y_L_quota : MethodName := ⟨"CacheLevelsLaw", "quota", "(LCacheLevels;II[J)I"⟩
theorem st_L_quota : Cond.static y_L_quota ∈ tbW := tw 384 (by decide +kernel) (by decide +kernel)
theorem hd_L_quota : y_L_quota.cls ≠ "java/lang/invoke/MethodHandle" ∧ y_L_quota.cls ≠ "java/lang/invoke/VarHandle" ∧ (parseMethodDescriptor y_L_quota.desc).map (fun d => d.parameters.length) = some 4 := by decide +kernel
abbrev b_C_quota : ByteArray := prog_1_method_3_code
def y_C_quota : MethodName := ⟨"CacheLevels", "quota", "(II)I"⟩
theorem cd_C_quota : Cond.code y_C_quota b_C_quota 4 (some .int) ∈ tbW := tw 389 (by decide +kernel) (by decide +kernel)
theorem in_C_quota : Cond.instanceMethod y_C_quota ∈ tbW := tw 387 (by decide +kernel) (by decide +kernel)
theorem se_C_quota : Cond.selects "CacheLevels" y_C_quota y_C_quota ∈ tbW := tw 388 (by decide +kernel) (by decide +kernel)
theorem hd_C_quota : y_C_quota.cls = "CacheLevels" ∧ y_C_quota.cls ≠ "java/lang/invoke/MethodHandle" ∧ y_C_quota.cls ≠ "java/lang/invoke/VarHandle" ∧ (parseMethodDescriptor y_C_quota.desc).map (fun d => d.parameters.length) = some 2 := by decide +kernel
abbrev b_L_holds : ByteArray := method_5_code
def y_L_holds : MethodName := ⟨"CacheLevelsLaw", "holds", "(LCacheLevels;II[J)I"⟩
theorem st_L_holds : Cond.static y_L_holds ∈ tbW := tw 392 (by decide +kernel) (by decide +kernel)
theorem hd_L_holds : y_L_holds.cls ≠ "java/lang/invoke/MethodHandle" ∧ y_L_holds.cls ≠ "java/lang/invoke/VarHandle" ∧ (parseMethodDescriptor y_L_holds.desc).map (fun d => d.parameters.length) = some 4 := by decide +kernel
abbrev b_C_holds : ByteArray := prog_1_method_6_code
def y_C_holds : MethodName := ⟨"CacheLevels", "holds", "(II)I"⟩
theorem cd_C_holds : Cond.code y_C_holds b_C_holds 5 (some .int) ∈ tbW := tw 397 (by decide +kernel) (by decide +kernel)
theorem in_C_holds : Cond.instanceMethod y_C_holds ∈ tbW := tw 395 (by decide +kernel) (by decide +kernel)
theorem se_C_holds : Cond.selects "CacheLevels" y_C_holds y_C_holds ∈ tbW := tw 396 (by decide +kernel) (by decide +kernel)
theorem hd_C_holds : y_C_holds.cls = "CacheLevels" ∧ y_C_holds.cls ≠ "java/lang/invoke/MethodHandle" ∧ y_C_holds.cls ≠ "java/lang/invoke/VarHandle" ∧ (parseMethodDescriptor y_C_holds.desc).map (fun d => d.parameters.length) = some 2 := by decide +kernel
abbrev b_C_requireCoreOrNone : ByteArray := prog_1_method_15_code
def y_C_requireCoreOrNone : MethodName := ⟨"CacheLevels", "requireCoreOrNone", "(I)V"⟩
theorem cd_C_requireCoreOrNone : Cond.code y_C_requireCoreOrNone b_C_requireCoreOrNone 2 none ∈ tbW := tw 401 (by decide +kernel) (by decide +kernel)
theorem in_C_requireCoreOrNone : Cond.instanceMethod y_C_requireCoreOrNone ∈ tbW := tw 400 (by decide +kernel) (by decide +kernel)
theorem se_C_requireCoreOrNone : Cond.selects y_C_requireCoreOrNone.cls y_C_requireCoreOrNone y_C_requireCoreOrNone ∈ tbW := tp 15 (by decide +kernel) (by decide +kernel)
theorem hd_C_requireCoreOrNone : y_C_requireCoreOrNone.cls = "CacheLevels" ∧ y_C_requireCoreOrNone.cls ≠ "java/lang/invoke/MethodHandle" ∧ y_C_requireCoreOrNone.cls ≠ "java/lang/invoke/VarHandle" ∧ (parseMethodDescriptor y_C_requireCoreOrNone.desc).map (fun d => d.parameters.length) = some 1 := by decide +kernel
abbrev b_C_bankOf : ByteArray := prog_1_method_16_code
def y_C_bankOf : MethodName := ⟨"CacheLevels", "bankOf", "(I)LCacheLevels$Bank;"⟩
theorem cd_C_bankOf : Cond.code y_C_bankOf b_C_bankOf 2 (some (.object "CacheLevels$Bank")) ∈ tbW := tw 405 (by decide +kernel) (by decide +kernel)
theorem in_C_bankOf : Cond.instanceMethod y_C_bankOf ∈ tbW := tw 404 (by decide +kernel) (by decide +kernel)
theorem se_C_bankOf : Cond.selects y_C_bankOf.cls y_C_bankOf y_C_bankOf ∈ tbW := tp 16 (by decide +kernel) (by decide +kernel)
theorem hd_C_bankOf : y_C_bankOf.cls = "CacheLevels" ∧ y_C_bankOf.cls ≠ "java/lang/invoke/MethodHandle" ∧ y_C_bankOf.cls ≠ "java/lang/invoke/VarHandle" ∧ (parseMethodDescriptor y_C_bankOf.desc).map (fun d => d.parameters.length) = some 1 := by decide +kernel
abbrev b_C_groupOf : ByteArray := prog_1_method_17_code
def y_C_groupOf : MethodName := ⟨"CacheLevels", "groupOf", "(I)I"⟩
theorem cd_C_groupOf : Cond.code y_C_groupOf b_C_groupOf 1 (some .int) ∈ tbW := tw 408 (by decide +kernel) (by decide +kernel)
theorem st_C_groupOf : Cond.static y_C_groupOf ∈ tbW := tw 407 (by decide +kernel) (by decide +kernel)
theorem hd_C_groupOf : y_C_groupOf.cls ≠ "java/lang/invoke/MethodHandle" ∧ y_C_groupOf.cls ≠ "java/lang/invoke/VarHandle" ∧ (parseMethodDescriptor y_C_groupOf.desc).map (fun d => d.parameters.length) = some 1 := by decide +kernel
abbrev b_L_version : ByteArray := method_6_code
def y_L_version : MethodName := ⟨"CacheLevelsLaw", "version", "(LCacheLevels;II[J)I"⟩
theorem st_L_version : Cond.static y_L_version ∈ tbW := tw 410 (by decide +kernel) (by decide +kernel)
theorem hd_L_version : y_L_version.cls ≠ "java/lang/invoke/MethodHandle" ∧ y_L_version.cls ≠ "java/lang/invoke/VarHandle" ∧ (parseMethodDescriptor y_L_version.desc).map (fun d => d.parameters.length) = some 4 := by decide +kernel
abbrev b_C_version : ByteArray := prog_1_method_7_code
def y_C_version : MethodName := ⟨"CacheLevels", "version", "(II)I"⟩
theorem cd_C_version : Cond.code y_C_version b_C_version 6 (some .int) ∈ tbW := tw 415 (by decide +kernel) (by decide +kernel)
theorem in_C_version : Cond.instanceMethod y_C_version ∈ tbW := tw 413 (by decide +kernel) (by decide +kernel)
theorem se_C_version : Cond.selects "CacheLevels" y_C_version y_C_version ∈ tbW := tw 414 (by decide +kernel) (by decide +kernel)
theorem hd_C_version : y_C_version.cls = "CacheLevels" ∧ y_C_version.cls ≠ "java/lang/invoke/MethodHandle" ∧ y_C_version.cls ≠ "java/lang/invoke/VarHandle" ∧ (parseMethodDescriptor y_C_version.desc).map (fun d => d.parameters.length) = some 2 := by decide +kernel
abbrev b_L_line : ByteArray := method_7_code
def y_L_line : MethodName := ⟨"CacheLevelsLaw", "line", "(LCacheLevels;III[J)I"⟩
theorem st_L_line : Cond.static y_L_line ∈ tbW := tw 417 (by decide +kernel) (by decide +kernel)
theorem hd_L_line : y_L_line.cls ≠ "java/lang/invoke/MethodHandle" ∧ y_L_line.cls ≠ "java/lang/invoke/VarHandle" ∧ (parseMethodDescriptor y_L_line.desc).map (fun d => d.parameters.length) = some 5 := by decide +kernel
abbrev b_C_line : ByteArray := prog_1_method_9_code
def y_C_line : MethodName := ⟨"CacheLevels", "line", "(III)I"⟩
theorem cd_C_line : Cond.code y_C_line b_C_line 6 (some .int) ∈ tbW := tw 422 (by decide +kernel) (by decide +kernel)
theorem in_C_line : Cond.instanceMethod y_C_line ∈ tbW := tw 420 (by decide +kernel) (by decide +kernel)
theorem se_C_line : Cond.selects "CacheLevels" y_C_line y_C_line ∈ tbW := tw 421 (by decide +kernel) (by decide +kernel)
theorem hd_C_line : y_C_line.cls = "CacheLevels" ∧ y_C_line.cls ≠ "java/lang/invoke/MethodHandle" ∧ y_C_line.cls ≠ "java/lang/invoke/VarHandle" ∧ (parseMethodDescriptor y_C_line.desc).map (fun d => d.parameters.length) = some 3 := by decide +kernel
abbrev b_L_core : ByteArray := method_8_code
def y_L_core : MethodName := ⟨"CacheLevelsLaw", "core", "(LCacheLevels;II[J)I"⟩
theorem st_L_core : Cond.static y_L_core ∈ tbW := tw 427 (by decide +kernel) (by decide +kernel)
theorem hd_L_core : y_L_core.cls ≠ "java/lang/invoke/MethodHandle" ∧ y_L_core.cls ≠ "java/lang/invoke/VarHandle" ∧ (parseMethodDescriptor y_L_core.desc).map (fun d => d.parameters.length) = some 4 := by decide +kernel
abbrev b_C_core : ByteArray := prog_1_method_12_code
def y_C_core : MethodName := ⟨"CacheLevels", "core", "(II)I"⟩
theorem cd_C_core : Cond.code y_C_core b_C_core 3 (some .int) ∈ tbW := tw 432 (by decide +kernel) (by decide +kernel)
theorem in_C_core : Cond.instanceMethod y_C_core ∈ tbW := tw 430 (by decide +kernel) (by decide +kernel)
theorem se_C_core : Cond.selects "CacheLevels" y_C_core y_C_core ∈ tbW := tw 431 (by decide +kernel) (by decide +kernel)
theorem hd_C_core : y_C_core.cls = "CacheLevels" ∧ y_C_core.cls ≠ "java/lang/invoke/MethodHandle" ∧ y_C_core.cls ≠ "java/lang/invoke/VarHandle" ∧ (parseMethodDescriptor y_C_core.desc).map (fun d => d.parameters.length) = some 2 := by decide +kernel
abbrev b_B_ownedBy : ByteArray := prog_2_method_18_code
def y_B_ownedBy : MethodName := ⟨"CacheLevels$Bank", "ownedBy", "(I)I"⟩
theorem cd_B_ownedBy : Cond.code y_B_ownedBy b_B_ownedBy 4 (some .int) ∈ tbW := tw 437 (by decide +kernel) (by decide +kernel)
theorem in_B_ownedBy : Cond.instanceMethod y_B_ownedBy ∈ tbW := tw 435 (by decide +kernel) (by decide +kernel)
theorem se_B_ownedBy : Cond.selects "CacheLevels$Bank" y_B_ownedBy y_B_ownedBy ∈ tbW := tw 436 (by decide +kernel) (by decide +kernel)
theorem hd_B_ownedBy : y_B_ownedBy.cls = "CacheLevels$Bank" ∧ y_B_ownedBy.cls ≠ "java/lang/invoke/MethodHandle" ∧ y_B_ownedBy.cls ≠ "java/lang/invoke/VarHandle" ∧ (parseMethodDescriptor y_B_ownedBy.desc).map (fun d => d.parameters.length) = some 1 := by decide +kernel
abbrev b_M_init : ByteArray := prog_5_method_1_code
def y_M_init : MethodName := ⟨"CacheLevelsModel", "<init>", "(IIII)V"⟩
theorem cd_M_init : Cond.code y_M_init b_M_init 5 none ∈ tbW := tw 443 (by decide +kernel) (by decide +kernel)
theorem in_M_init : Cond.instanceMethod y_M_init ∈ tbW := tw 442 (by decide +kernel) (by decide +kernel)
theorem hd_M_init : y_M_init.cls = "CacheLevelsModel" ∧ y_M_init.cls ≠ "java/lang/invoke/MethodHandle" ∧ y_M_init.cls ≠ "java/lang/invoke/VarHandle" ∧ (parseMethodDescriptor y_M_init.desc).map (fun d => d.parameters.length) = some 4 := by decide +kernel
abbrev b_M_modulo : ByteArray := prog_5_method_2_code
def y_M_modulo : MethodName := ⟨"CacheLevelsModel", "modulo", "(II)I"⟩
theorem cd_M_modulo : Cond.code y_M_modulo b_M_modulo 2 (some .int) ∈ tbW := tw 447 (by decide +kernel) (by decide +kernel)
theorem st_M_modulo : Cond.static y_M_modulo ∈ tbW := tw 446 (by decide +kernel) (by decide +kernel)
theorem hd_M_modulo : y_M_modulo.cls ≠ "java/lang/invoke/MethodHandle" ∧ y_M_modulo.cls ≠ "java/lang/invoke/VarHandle" ∧ (parseMethodDescriptor y_M_modulo.desc).map (fun d => d.parameters.length) = some 2 := by decide +kernel
abbrev b_M_thrown : ByteArray := prog_5_method_3_code
def y_M_thrown : MethodName := ⟨"CacheLevelsModel", "thrown", "()I"⟩
theorem cd_M_thrown : Cond.code y_M_thrown b_M_thrown 1 (some .int) ∈ tbW := tw 512 (by decide +kernel) (by decide +kernel)
theorem in_M_thrown : Cond.instanceMethod y_M_thrown ∈ tbW := tw 510 (by decide +kernel) (by decide +kernel)
theorem se_M_thrown : Cond.selects "CacheLevelsModel" y_M_thrown y_M_thrown ∈ tbW := tw 511 (by decide +kernel) (by decide +kernel)
theorem hd_M_thrown : y_M_thrown.cls = "CacheLevelsModel" ∧ y_M_thrown.cls ≠ "java/lang/invoke/MethodHandle" ∧ y_M_thrown.cls ≠ "java/lang/invoke/VarHandle" ∧ (parseMethodDescriptor y_M_thrown.desc).map (fun d => d.parameters.length) = some 0 := by decide +kernel
abbrev b_M_access : ByteArray := prog_5_method_28_code
def y_M_access : MethodName := ⟨"CacheLevelsModel", "access", "(III)I"⟩
theorem cd_M_access : Cond.code y_M_access b_M_access 7 (some .int) ∈ tbW := tw 516 (by decide +kernel) (by decide +kernel)
theorem in_M_access : Cond.instanceMethod y_M_access ∈ tbW := tw 514 (by decide +kernel) (by decide +kernel)
theorem se_M_access : Cond.selects "CacheLevelsModel" y_M_access y_M_access ∈ tbW := tw 515 (by decide +kernel) (by decide +kernel)
theorem hd_M_access : y_M_access.cls = "CacheLevelsModel" ∧ y_M_access.cls ≠ "java/lang/invoke/MethodHandle" ∧ y_M_access.cls ≠ "java/lang/invoke/VarHandle" ∧ (parseMethodDescriptor y_M_access.desc).map (fun d => d.parameters.length) = some 3 := by decide +kernel
abbrev b_M_isCore : ByteArray := prog_5_method_6_code
def y_M_isCore : MethodName := ⟨"CacheLevelsModel", "isCore", "(I)Z"⟩
theorem cd_M_isCore : Cond.code y_M_isCore b_M_isCore 2 (some .boolean) ∈ tbW := tw 520 (by decide +kernel) (by decide +kernel)
theorem in_M_isCore : Cond.instanceMethod y_M_isCore ∈ tbW := tw 519 (by decide +kernel) (by decide +kernel)
theorem se_M_isCore : Cond.selects y_M_isCore.cls y_M_isCore y_M_isCore ∈ tbW := tp 17 (by decide +kernel) (by decide +kernel)
theorem hd_M_isCore : y_M_isCore.cls = "CacheLevelsModel" ∧ y_M_isCore.cls ≠ "java/lang/invoke/MethodHandle" ∧ y_M_isCore.cls ≠ "java/lang/invoke/VarHandle" ∧ (parseMethodDescriptor y_M_isCore.desc).map (fun d => d.parameters.length) = some 1 := by decide +kernel
abbrev b_M_within : ByteArray := prog_5_method_5_code
def y_M_within : MethodName := ⟨"CacheLevelsModel", "within", "(III)Z"⟩
theorem cd_M_within : Cond.code y_M_within b_M_within 3 (some .boolean) ∈ tbW := tw 523 (by decide +kernel) (by decide +kernel)
theorem st_M_within : Cond.static y_M_within ∈ tbW := tw 522 (by decide +kernel) (by decide +kernel)
theorem hd_M_within : y_M_within.cls ≠ "java/lang/invoke/MethodHandle" ∧ y_M_within.cls ≠ "java/lang/invoke/VarHandle" ∧ (parseMethodDescriptor y_M_within.desc).map (fun d => d.parameters.length) = some 3 := by decide +kernel
abbrev b_M_fail : ByteArray := prog_5_method_4_code
def y_M_fail : MethodName := ⟨"CacheLevelsModel", "fail", "(I)I"⟩
theorem cd_M_fail : Cond.code y_M_fail b_M_fail 2 (some .int) ∈ tbW := tw 527 (by decide +kernel) (by decide +kernel)
theorem in_M_fail : Cond.instanceMethod y_M_fail ∈ tbW := tw 526 (by decide +kernel) (by decide +kernel)
theorem se_M_fail : Cond.selects y_M_fail.cls y_M_fail y_M_fail ∈ tbW := tp 18 (by decide +kernel) (by decide +kernel)
theorem hd_M_fail : y_M_fail.cls = "CacheLevelsModel" ∧ y_M_fail.cls ≠ "java/lang/invoke/MethodHandle" ∧ y_M_fail.cls ≠ "java/lang/invoke/VarHandle" ∧ (parseMethodDescriptor y_M_fail.desc).map (fun d => d.parameters.length) = some 1 := by decide +kernel
abbrev b_M_at : ByteArray := prog_5_method_11_code
def y_M_at : MethodName := ⟨"CacheLevelsModel", "at", "(II)I"⟩
theorem cd_M_at : Cond.code y_M_at b_M_at 4 (some .int) ∈ tbW := tw 531 (by decide +kernel) (by decide +kernel)
theorem in_M_at : Cond.instanceMethod y_M_at ∈ tbW := tw 530 (by decide +kernel) (by decide +kernel)
theorem se_M_at : Cond.selects y_M_at.cls y_M_at y_M_at ∈ tbW := tp 19 (by decide +kernel) (by decide +kernel)
theorem hd_M_at : y_M_at.cls = "CacheLevelsModel" ∧ y_M_at.cls ≠ "java/lang/invoke/MethodHandle" ∧ y_M_at.cls ≠ "java/lang/invoke/VarHandle" ∧ (parseMethodDescriptor y_M_at.desc).map (fun d => d.parameters.length) = some 2 := by decide +kernel
abbrev b_M_bring : ByteArray := prog_5_method_27_code
def y_M_bring : MethodName := ⟨"CacheLevelsModel", "bring", "(II)I"⟩
theorem cd_M_bring : Cond.code y_M_bring b_M_bring 6 (some .int) ∈ tbW := tw 535 (by decide +kernel) (by decide +kernel)
theorem in_M_bring : Cond.instanceMethod y_M_bring ∈ tbW := tw 534 (by decide +kernel) (by decide +kernel)
theorem se_M_bring : Cond.selects y_M_bring.cls y_M_bring y_M_bring ∈ tbW := tp 20 (by decide +kernel) (by decide +kernel)
theorem hd_M_bring : y_M_bring.cls = "CacheLevelsModel" ∧ y_M_bring.cls ≠ "java/lang/invoke/MethodHandle" ∧ y_M_bring.cls ≠ "java/lang/invoke/VarHandle" ∧ (parseMethodDescriptor y_M_bring.desc).map (fun d => d.parameters.length) = some 2 := by decide +kernel
abbrev b_M_handOver : ByteArray := prog_5_method_25_code
def y_M_handOver : MethodName := ⟨"CacheLevelsModel", "handOver", "(II)V"⟩
theorem cd_M_handOver : Cond.code y_M_handOver b_M_handOver 5 none ∈ tbW := tw 539 (by decide +kernel) (by decide +kernel)
theorem in_M_handOver : Cond.instanceMethod y_M_handOver ∈ tbW := tw 538 (by decide +kernel) (by decide +kernel)
theorem se_M_handOver : Cond.selects y_M_handOver.cls y_M_handOver y_M_handOver ∈ tbW := tp 21 (by decide +kernel) (by decide +kernel)
theorem hd_M_handOver : y_M_handOver.cls = "CacheLevelsModel" ∧ y_M_handOver.cls ≠ "java/lang/invoke/MethodHandle" ∧ y_M_handOver.cls ≠ "java/lang/invoke/VarHandle" ∧ (parseMethodDescriptor y_M_handOver.desc).map (fun d => d.parameters.length) = some 2 := by decide +kernel
abbrev b_M_goDown : ByteArray := prog_5_method_18_code
def y_M_goDown : MethodName := ⟨"CacheLevelsModel", "goDown", "(II)V"⟩
theorem cd_M_goDown : Cond.code y_M_goDown b_M_goDown 4 none ∈ tbW := tw 543 (by decide +kernel) (by decide +kernel)
theorem in_M_goDown : Cond.instanceMethod y_M_goDown ∈ tbW := tw 542 (by decide +kernel) (by decide +kernel)
theorem se_M_goDown : Cond.selects y_M_goDown.cls y_M_goDown y_M_goDown ∈ tbW := tp 22 (by decide +kernel) (by decide +kernel)
theorem hd_M_goDown : y_M_goDown.cls = "CacheLevelsModel" ∧ y_M_goDown.cls ≠ "java/lang/invoke/MethodHandle" ∧ y_M_goDown.cls ≠ "java/lang/invoke/VarHandle" ∧ (parseMethodDescriptor y_M_goDown.desc).map (fun d => d.parameters.length) = some 2 := by decide +kernel
abbrev b_M_toMemory : ByteArray := prog_5_method_17_code
def y_M_toMemory : MethodName := ⟨"CacheLevelsModel", "toMemory", "(II)V"⟩
theorem cd_M_toMemory : Cond.code y_M_toMemory b_M_toMemory 3 none ∈ tbW := tw 547 (by decide +kernel) (by decide +kernel)
theorem in_M_toMemory : Cond.instanceMethod y_M_toMemory ∈ tbW := tw 546 (by decide +kernel) (by decide +kernel)
theorem se_M_toMemory : Cond.selects y_M_toMemory.cls y_M_toMemory y_M_toMemory ∈ tbW := tp 23 (by decide +kernel) (by decide +kernel)
theorem hd_M_toMemory : y_M_toMemory.cls = "CacheLevelsModel" ∧ y_M_toMemory.cls ≠ "java/lang/invoke/MethodHandle" ∧ y_M_toMemory.cls ≠ "java/lang/invoke/VarHandle" ∧ (parseMethodDescriptor y_M_toMemory.desc).map (fun d => d.parameters.length) = some 2 := by decide +kernel
abbrev b_M_learn : ByteArray := prog_5_method_8_code
def y_M_learn : MethodName := ⟨"CacheLevelsModel", "learn", "(I)I"⟩
theorem cd_M_learn : Cond.code y_M_learn b_M_learn 3 (some .int) ∈ tbW := tw 551 (by decide +kernel) (by decide +kernel)
theorem in_M_learn : Cond.instanceMethod y_M_learn ∈ tbW := tw 550 (by decide +kernel) (by decide +kernel)
theorem se_M_learn : Cond.selects y_M_learn.cls y_M_learn y_M_learn ∈ tbW := tp 24 (by decide +kernel) (by decide +kernel)
theorem hd_M_learn : y_M_learn.cls = "CacheLevelsModel" ∧ y_M_learn.cls ≠ "java/lang/invoke/MethodHandle" ∧ y_M_learn.cls ≠ "java/lang/invoke/VarHandle" ∧ (parseMethodDescriptor y_M_learn.desc).map (fun d => d.parameters.length) = some 1 := by decide +kernel
abbrev b_M_find : ByteArray := prog_5_method_7_code
def y_M_find : MethodName := ⟨"CacheLevelsModel", "find", "(I)I"⟩
theorem cd_M_find : Cond.code y_M_find b_M_find 3 (some .int) ∈ tbW := tw 555 (by decide +kernel) (by decide +kernel)
theorem in_M_find : Cond.instanceMethod y_M_find ∈ tbW := tw 554 (by decide +kernel) (by decide +kernel)
theorem se_M_find : Cond.selects y_M_find.cls y_M_find y_M_find ∈ tbW := tp 25 (by decide +kernel) (by decide +kernel)
theorem hd_M_find : y_M_find.cls = "CacheLevelsModel" ∧ y_M_find.cls ≠ "java/lang/invoke/MethodHandle" ∧ y_M_find.cls ≠ "java/lang/invoke/VarHandle" ∧ (parseMethodDescriptor y_M_find.desc).map (fun d => d.parameters.length) = some 1 := by decide +kernel
abbrev b_M_takeOut : ByteArray := prog_5_method_13_code
def y_M_takeOut : MethodName := ⟨"CacheLevelsModel", "takeOut", "(II)V"⟩
theorem cd_M_takeOut : Cond.code y_M_takeOut b_M_takeOut 4 none ∈ tbW := tw 559 (by decide +kernel) (by decide +kernel)
theorem in_M_takeOut : Cond.instanceMethod y_M_takeOut ∈ tbW := tw 558 (by decide +kernel) (by decide +kernel)
theorem se_M_takeOut : Cond.selects y_M_takeOut.cls y_M_takeOut y_M_takeOut ∈ tbW := tp 26 (by decide +kernel) (by decide +kernel)
theorem hd_M_takeOut : y_M_takeOut.cls = "CacheLevelsModel" ∧ y_M_takeOut.cls ≠ "java/lang/invoke/MethodHandle" ∧ y_M_takeOut.cls ≠ "java/lang/invoke/VarHandle" ∧ (parseMethodDescriptor y_M_takeOut.desc).map (fun d => d.parameters.length) = some 2 := by decide +kernel
abbrev b_M_copy : ByteArray := prog_5_method_12_code
def y_M_copy : MethodName := ⟨"CacheLevelsModel", "copy", "(II)V"⟩
theorem cd_M_copy : Cond.code y_M_copy b_M_copy 3 none ∈ tbW := tw 563 (by decide +kernel) (by decide +kernel)
theorem in_M_copy : Cond.instanceMethod y_M_copy ∈ tbW := tw 562 (by decide +kernel) (by decide +kernel)
theorem se_M_copy : Cond.selects y_M_copy.cls y_M_copy y_M_copy ∈ tbW := tp 27 (by decide +kernel) (by decide +kernel)
theorem hd_M_copy : y_M_copy.cls = "CacheLevelsModel" ∧ y_M_copy.cls ≠ "java/lang/invoke/MethodHandle" ∧ y_M_copy.cls ≠ "java/lang/invoke/VarHandle" ∧ (parseMethodDescriptor y_M_copy.desc).map (fun d => d.parameters.length) = some 2 := by decide +kernel
abbrev b_M_use : ByteArray := prog_5_method_15_code
def y_M_use : MethodName := ⟨"CacheLevelsModel", "use", "(II)V"⟩
theorem cd_M_use : Cond.code y_M_use b_M_use 7 none ∈ tbW := tw 567 (by decide +kernel) (by decide +kernel)
theorem in_M_use : Cond.instanceMethod y_M_use ∈ tbW := tw 566 (by decide +kernel) (by decide +kernel)
theorem se_M_use : Cond.selects y_M_use.cls y_M_use y_M_use ∈ tbW := tp 28 (by decide +kernel) (by decide +kernel)
theorem hd_M_use : y_M_use.cls = "CacheLevelsModel" ∧ y_M_use.cls ≠ "java/lang/invoke/MethodHandle" ∧ y_M_use.cls ≠ "java/lang/invoke/VarHandle" ∧ (parseMethodDescriptor y_M_use.desc).map (fun d => d.parameters.length) = some 2 := by decide +kernel
abbrev b_M_putFirst : ByteArray := prog_5_method_14_code
def y_M_putFirst : MethodName := ⟨"CacheLevelsModel", "putFirst", "(IIZII)V"⟩
theorem cd_M_putFirst : Cond.code y_M_putFirst b_M_putFirst 7 none ∈ tbW := tw 571 (by decide +kernel) (by decide +kernel)
theorem in_M_putFirst : Cond.instanceMethod y_M_putFirst ∈ tbW := tw 570 (by decide +kernel) (by decide +kernel)
theorem se_M_putFirst : Cond.selects y_M_putFirst.cls y_M_putFirst y_M_putFirst ∈ tbW := tp 29 (by decide +kernel) (by decide +kernel)
theorem hd_M_putFirst : y_M_putFirst.cls = "CacheLevelsModel" ∧ y_M_putFirst.cls ≠ "java/lang/invoke/MethodHandle" ∧ y_M_putFirst.cls ≠ "java/lang/invoke/VarHandle" ∧ (parseMethodDescriptor y_M_putFirst.desc).map (fun d => d.parameters.length) = some 5 := by decide +kernel
abbrev b_M_comeToFirst : ByteArray := prog_5_method_23_code
def y_M_comeToFirst : MethodName := ⟨"CacheLevelsModel", "comeToFirst", "(IIZI)V"⟩
theorem cd_M_comeToFirst : Cond.code y_M_comeToFirst b_M_comeToFirst 9 none ∈ tbW := tw 575 (by decide +kernel) (by decide +kernel)
theorem in_M_comeToFirst : Cond.instanceMethod y_M_comeToFirst ∈ tbW := tw 574 (by decide +kernel) (by decide +kernel)
theorem se_M_comeToFirst : Cond.selects y_M_comeToFirst.cls y_M_comeToFirst y_M_comeToFirst ∈ tbW := tp 30 (by decide +kernel) (by decide +kernel)
theorem hd_M_comeToFirst : y_M_comeToFirst.cls = "CacheLevelsModel" ∧ y_M_comeToFirst.cls ≠ "java/lang/invoke/MethodHandle" ∧ y_M_comeToFirst.cls ≠ "java/lang/invoke/VarHandle" ∧ (parseMethodDescriptor y_M_comeToFirst.desc).map (fun d => d.parameters.length) = some 4 := by decide +kernel
abbrev b_M_setOf : ByteArray := prog_5_method_10_code
def y_M_setOf : MethodName := ⟨"CacheLevelsModel", "setOf", "(II)I"⟩
theorem cd_M_setOf : Cond.code y_M_setOf b_M_setOf 3 (some .int) ∈ tbW := tw 579 (by decide +kernel) (by decide +kernel)
theorem in_M_setOf : Cond.instanceMethod y_M_setOf ∈ tbW := tw 578 (by decide +kernel) (by decide +kernel)
theorem se_M_setOf : Cond.selects y_M_setOf.cls y_M_setOf y_M_setOf ∈ tbW := tp 31 (by decide +kernel) (by decide +kernel)
theorem hd_M_setOf : y_M_setOf.cls = "CacheLevelsModel" ∧ y_M_setOf.cls ≠ "java/lang/invoke/MethodHandle" ∧ y_M_setOf.cls ≠ "java/lang/invoke/VarHandle" ∧ (parseMethodDescriptor y_M_setOf.desc).map (fun d => d.parameters.length) = some 2 := by decide +kernel
abbrev b_M_sets : ByteArray := prog_5_method_9_code
def y_M_sets : MethodName := ⟨"CacheLevelsModel", "sets", "(I)I"⟩
theorem cd_M_sets : Cond.code y_M_sets b_M_sets 2 (some .int) ∈ tbW := tw 583 (by decide +kernel) (by decide +kernel)
theorem in_M_sets : Cond.instanceMethod y_M_sets ∈ tbW := tw 582 (by decide +kernel) (by decide +kernel)
theorem se_M_sets : Cond.selects y_M_sets.cls y_M_sets y_M_sets ∈ tbW := tp 32 (by decide +kernel) (by decide +kernel)
theorem hd_M_sets : y_M_sets.cls = "CacheLevelsModel" ∧ y_M_sets.cls ≠ "java/lang/invoke/MethodHandle" ∧ y_M_sets.cls ≠ "java/lang/invoke/VarHandle" ∧ (parseMethodDescriptor y_M_sets.desc).map (fun d => d.parameters.length) = some 1 := by decide +kernel
abbrev b_M_oldest : ByteArray := prog_5_method_16_code
def y_M_oldest : MethodName := ⟨"CacheLevelsModel", "oldest", "(IIII)I"⟩
theorem cd_M_oldest : Cond.code y_M_oldest b_M_oldest 8 (some .int) ∈ tbW := tw 587 (by decide +kernel) (by decide +kernel)
theorem in_M_oldest : Cond.instanceMethod y_M_oldest ∈ tbW := tw 586 (by decide +kernel) (by decide +kernel)
theorem se_M_oldest : Cond.selects y_M_oldest.cls y_M_oldest y_M_oldest ∈ tbW := tp 33 (by decide +kernel) (by decide +kernel)
theorem hd_M_oldest : y_M_oldest.cls = "CacheLevelsModel" ∧ y_M_oldest.cls ≠ "java/lang/invoke/MethodHandle" ∧ y_M_oldest.cls ≠ "java/lang/invoke/VarHandle" ∧ (parseMethodDescriptor y_M_oldest.desc).map (fun d => d.parameters.length) = some 4 := by decide +kernel
abbrev b_M_passes : ByteArray := prog_5_method_20_code
def y_M_passes : MethodName := ⟨"CacheLevelsModel", "passes", "(I)Z"⟩
theorem cd_M_passes : Cond.code y_M_passes b_M_passes 2 (some .boolean) ∈ tbW := tw 591 (by decide +kernel) (by decide +kernel)
theorem in_M_passes : Cond.instanceMethod y_M_passes ∈ tbW := tw 590 (by decide +kernel) (by decide +kernel)
theorem se_M_passes : Cond.selects y_M_passes.cls y_M_passes y_M_passes ∈ tbW := tp 34 (by decide +kernel) (by decide +kernel)
theorem hd_M_passes : y_M_passes.cls = "CacheLevelsModel" ∧ y_M_passes.cls ≠ "java/lang/invoke/MethodHandle" ∧ y_M_passes.cls ≠ "java/lang/invoke/VarHandle" ∧ (parseMethodDescriptor y_M_passes.desc).map (fun d => d.parameters.length) = some 1 := by decide +kernel
abbrev b_M_isOneOf : ByteArray := prog_5_method_19_code
def y_M_isOneOf : MethodName := ⟨"CacheLevelsModel", "isOneOf", "(II)Z"⟩
theorem cd_M_isOneOf : Cond.code y_M_isOneOf b_M_isOneOf 5 (some .boolean) ∈ tbW := tw 595 (by decide +kernel) (by decide +kernel)
theorem in_M_isOneOf : Cond.instanceMethod y_M_isOneOf ∈ tbW := tw 594 (by decide +kernel) (by decide +kernel)
theorem se_M_isOneOf : Cond.selects y_M_isOneOf.cls y_M_isOneOf y_M_isOneOf ∈ tbW := tp 35 (by decide +kernel) (by decide +kernel)
theorem hd_M_isOneOf : y_M_isOneOf.cls = "CacheLevelsModel" ∧ y_M_isOneOf.cls ≠ "java/lang/invoke/MethodHandle" ∧ y_M_isOneOf.cls ≠ "java/lang/invoke/VarHandle" ∧ (parseMethodDescriptor y_M_isOneOf.desc).map (fun d => d.parameters.length) = some 2 := by decide +kernel
abbrev b_M_comeToSecond : ByteArray := prog_5_method_22_code
def y_M_comeToSecond : MethodName := ⟨"CacheLevelsModel", "comeToSecond", "(IIZI)V"⟩
theorem cd_M_comeToSecond : Cond.code y_M_comeToSecond b_M_comeToSecond 7 none ∈ tbW := tw 599 (by decide +kernel) (by decide +kernel)
theorem in_M_comeToSecond : Cond.instanceMethod y_M_comeToSecond ∈ tbW := tw 598 (by decide +kernel) (by decide +kernel)
theorem se_M_comeToSecond : Cond.selects y_M_comeToSecond.cls y_M_comeToSecond y_M_comeToSecond ∈ tbW := tp 36 (by decide +kernel) (by decide +kernel)
theorem hd_M_comeToSecond : y_M_comeToSecond.cls = "CacheLevelsModel" ∧ y_M_comeToSecond.cls ≠ "java/lang/invoke/MethodHandle" ∧ y_M_comeToSecond.cls ≠ "java/lang/invoke/VarHandle" ∧ (parseMethodDescriptor y_M_comeToSecond.desc).map (fun d => d.parameters.length) = some 4 := by decide +kernel
abbrev b_M_leaveSecond : ByteArray := prog_5_method_21_code
def y_M_leaveSecond : MethodName := ⟨"CacheLevelsModel", "leaveSecond", "(I)V"⟩
theorem cd_M_leaveSecond : Cond.code y_M_leaveSecond b_M_leaveSecond 7 none ∈ tbW := tw 603 (by decide +kernel) (by decide +kernel)
theorem in_M_leaveSecond : Cond.instanceMethod y_M_leaveSecond ∈ tbW := tw 602 (by decide +kernel) (by decide +kernel)
theorem se_M_leaveSecond : Cond.selects y_M_leaveSecond.cls y_M_leaveSecond y_M_leaveSecond ∈ tbW := tp 37 (by decide +kernel) (by decide +kernel)
theorem hd_M_leaveSecond : y_M_leaveSecond.cls = "CacheLevelsModel" ∧ y_M_leaveSecond.cls ≠ "java/lang/invoke/MethodHandle" ∧ y_M_leaveSecond.cls ≠ "java/lang/invoke/VarHandle" ∧ (parseMethodDescriptor y_M_leaveSecond.desc).map (fun d => d.parameters.length) = some 1 := by decide +kernel
abbrev b_M_memoryOf : ByteArray := prog_5_method_26_code
def y_M_memoryOf : MethodName := ⟨"CacheLevelsModel", "memoryOf", "(I)I"⟩
theorem cd_M_memoryOf : Cond.code y_M_memoryOf b_M_memoryOf 3 (some .int) ∈ tbW := tw 607 (by decide +kernel) (by decide +kernel)
theorem in_M_memoryOf : Cond.instanceMethod y_M_memoryOf ∈ tbW := tw 606 (by decide +kernel) (by decide +kernel)
theorem se_M_memoryOf : Cond.selects y_M_memoryOf.cls y_M_memoryOf y_M_memoryOf ∈ tbW := tp 38 (by decide +kernel) (by decide +kernel)
theorem hd_M_memoryOf : y_M_memoryOf.cls = "CacheLevelsModel" ∧ y_M_memoryOf.cls ≠ "java/lang/invoke/MethodHandle" ∧ y_M_memoryOf.cls ≠ "java/lang/invoke/VarHandle" ∧ (parseMethodDescriptor y_M_memoryOf.desc).map (fun d => d.parameters.length) = some 1 := by decide +kernel
abbrev b_M_othersLose : ByteArray := prog_5_method_24_code
def y_M_othersLose : MethodName := ⟨"CacheLevelsModel", "othersLose", "(II)V"⟩
theorem cd_M_othersLose : Cond.code y_M_othersLose b_M_othersLose 5 none ∈ tbW := tw 611 (by decide +kernel) (by decide +kernel)
theorem in_M_othersLose : Cond.instanceMethod y_M_othersLose ∈ tbW := tw 610 (by decide +kernel) (by decide +kernel)
theorem se_M_othersLose : Cond.selects y_M_othersLose.cls y_M_othersLose y_M_othersLose ∈ tbW := tp 39 (by decide +kernel) (by decide +kernel)
theorem hd_M_othersLose : y_M_othersLose.cls = "CacheLevelsModel" ∧ y_M_othersLose.cls ≠ "java/lang/invoke/MethodHandle" ∧ y_M_othersLose.cls ≠ "java/lang/invoke/VarHandle" ∧ (parseMethodDescriptor y_M_othersLose.desc).map (fun d => d.parameters.length) = some 2 := by decide +kernel
abbrev b_M_quota : ByteArray := prog_5_method_29_code
def y_M_quota : MethodName := ⟨"CacheLevelsModel", "quota", "(II)I"⟩
theorem cd_M_quota : Cond.code y_M_quota b_M_quota 4 (some .int) ∈ tbW := tw 615 (by decide +kernel) (by decide +kernel)
theorem in_M_quota : Cond.instanceMethod y_M_quota ∈ tbW := tw 613 (by decide +kernel) (by decide +kernel)
theorem se_M_quota : Cond.selects "CacheLevelsModel" y_M_quota y_M_quota ∈ tbW := tw 614 (by decide +kernel) (by decide +kernel)
theorem hd_M_quota : y_M_quota.cls = "CacheLevelsModel" ∧ y_M_quota.cls ≠ "java/lang/invoke/MethodHandle" ∧ y_M_quota.cls ≠ "java/lang/invoke/VarHandle" ∧ (parseMethodDescriptor y_M_quota.desc).map (fun d => d.parameters.length) = some 2 := by decide +kernel
abbrev b_M_bypass : ByteArray := prog_5_method_30_code
def y_M_bypass : MethodName := ⟨"CacheLevelsModel", "bypass", "(II)Z"⟩
theorem cd_M_bypass : Cond.code y_M_bypass b_M_bypass 4 (some .boolean) ∈ tbW := tw 619 (by decide +kernel) (by decide +kernel)
theorem in_M_bypass : Cond.instanceMethod y_M_bypass ∈ tbW := tw 617 (by decide +kernel) (by decide +kernel)
theorem se_M_bypass : Cond.selects "CacheLevelsModel" y_M_bypass y_M_bypass ∈ tbW := tw 618 (by decide +kernel) (by decide +kernel)
theorem hd_M_bypass : y_M_bypass.cls = "CacheLevelsModel" ∧ y_M_bypass.cls ≠ "java/lang/invoke/MethodHandle" ∧ y_M_bypass.cls ≠ "java/lang/invoke/VarHandle" ∧ (parseMethodDescriptor y_M_bypass.desc).map (fun d => d.parameters.length) = some 2 := by decide +kernel
abbrev b_M_flush : ByteArray := prog_5_method_32_code
def y_M_flush : MethodName := ⟨"CacheLevelsModel", "flush", "()I"⟩
theorem cd_M_flush : Cond.code y_M_flush b_M_flush 4 (some .int) ∈ tbW := tw 623 (by decide +kernel) (by decide +kernel)
theorem in_M_flush : Cond.instanceMethod y_M_flush ∈ tbW := tw 621 (by decide +kernel) (by decide +kernel)
theorem se_M_flush : Cond.selects "CacheLevelsModel" y_M_flush y_M_flush ∈ tbW := tw 622 (by decide +kernel) (by decide +kernel)
theorem hd_M_flush : y_M_flush.cls = "CacheLevelsModel" ∧ y_M_flush.cls ≠ "java/lang/invoke/MethodHandle" ∧ y_M_flush.cls ≠ "java/lang/invoke/VarHandle" ∧ (parseMethodDescriptor y_M_flush.desc).map (fun d => d.parameters.length) = some 0 := by decide +kernel
abbrev b_M_isWrittenInFirst : ByteArray := prog_5_method_31_code
def y_M_isWrittenInFirst : MethodName := ⟨"CacheLevelsModel", "isWrittenInFirst", "(I)Z"⟩
theorem cd_M_isWrittenInFirst : Cond.code y_M_isWrittenInFirst b_M_isWrittenInFirst 4 (some .boolean) ∈ tbW := tw 627 (by decide +kernel) (by decide +kernel)
theorem in_M_isWrittenInFirst : Cond.instanceMethod y_M_isWrittenInFirst ∈ tbW := tw 626 (by decide +kernel) (by decide +kernel)
theorem se_M_isWrittenInFirst : Cond.selects y_M_isWrittenInFirst.cls y_M_isWrittenInFirst y_M_isWrittenInFirst ∈ tbW := tp 40 (by decide +kernel) (by decide +kernel)
theorem hd_M_isWrittenInFirst : y_M_isWrittenInFirst.cls = "CacheLevelsModel" ∧ y_M_isWrittenInFirst.cls ≠ "java/lang/invoke/MethodHandle" ∧ y_M_isWrittenInFirst.cls ≠ "java/lang/invoke/VarHandle" ∧ (parseMethodDescriptor y_M_isWrittenInFirst.desc).map (fun d => d.parameters.length) = some 1 := by decide +kernel
abbrev b_M_holds : ByteArray := prog_5_method_34_code
def y_M_holds : MethodName := ⟨"CacheLevelsModel", "holds", "(II)I"⟩
theorem cd_M_holds : Cond.code y_M_holds b_M_holds 5 (some .int) ∈ tbW := tw 631 (by decide +kernel) (by decide +kernel)
theorem in_M_holds : Cond.instanceMethod y_M_holds ∈ tbW := tw 629 (by decide +kernel) (by decide +kernel)
theorem se_M_holds : Cond.selects "CacheLevelsModel" y_M_holds y_M_holds ∈ tbW := tw 630 (by decide +kernel) (by decide +kernel)
theorem hd_M_holds : y_M_holds.cls = "CacheLevelsModel" ∧ y_M_holds.cls ≠ "java/lang/invoke/MethodHandle" ∧ y_M_holds.cls ≠ "java/lang/invoke/VarHandle" ∧ (parseMethodDescriptor y_M_holds.desc).map (fun d => d.parameters.length) = some 2 := by decide +kernel
abbrev b_M_cacheOf : ByteArray := prog_5_method_33_code
def y_M_cacheOf : MethodName := ⟨"CacheLevelsModel", "cacheOf", "(I)I"⟩
theorem cd_M_cacheOf : Cond.code y_M_cacheOf b_M_cacheOf 3 (some .int) ∈ tbW := tw 635 (by decide +kernel) (by decide +kernel)
theorem in_M_cacheOf : Cond.instanceMethod y_M_cacheOf ∈ tbW := tw 634 (by decide +kernel) (by decide +kernel)
theorem se_M_cacheOf : Cond.selects y_M_cacheOf.cls y_M_cacheOf y_M_cacheOf ∈ tbW := tp 41 (by decide +kernel) (by decide +kernel)
theorem hd_M_cacheOf : y_M_cacheOf.cls = "CacheLevelsModel" ∧ y_M_cacheOf.cls ≠ "java/lang/invoke/MethodHandle" ∧ y_M_cacheOf.cls ≠ "java/lang/invoke/VarHandle" ∧ (parseMethodDescriptor y_M_cacheOf.desc).map (fun d => d.parameters.length) = some 1 := by decide +kernel
abbrev b_M_version : ByteArray := prog_5_method_35_code
def y_M_version : MethodName := ⟨"CacheLevelsModel", "version", "(II)I"⟩
theorem cd_M_version : Cond.code y_M_version b_M_version 5 (some .int) ∈ tbW := tw 639 (by decide +kernel) (by decide +kernel)
theorem in_M_version : Cond.instanceMethod y_M_version ∈ tbW := tw 637 (by decide +kernel) (by decide +kernel)
theorem se_M_version : Cond.selects "CacheLevelsModel" y_M_version y_M_version ∈ tbW := tw 638 (by decide +kernel) (by decide +kernel)
theorem hd_M_version : y_M_version.cls = "CacheLevelsModel" ∧ y_M_version.cls ≠ "java/lang/invoke/MethodHandle" ∧ y_M_version.cls ≠ "java/lang/invoke/VarHandle" ∧ (parseMethodDescriptor y_M_version.desc).map (fun d => d.parameters.length) = some 2 := by decide +kernel
abbrev b_M_memory : ByteArray := prog_5_method_36_code
def y_M_memory : MethodName := ⟨"CacheLevelsModel", "memory", "(I)I"⟩
theorem cd_M_memory : Cond.code y_M_memory b_M_memory 2 (some .int) ∈ tbW := tw 643 (by decide +kernel) (by decide +kernel)
theorem in_M_memory : Cond.instanceMethod y_M_memory ∈ tbW := tw 641 (by decide +kernel) (by decide +kernel)
theorem se_M_memory : Cond.selects "CacheLevelsModel" y_M_memory y_M_memory ∈ tbW := tw 642 (by decide +kernel) (by decide +kernel)
theorem hd_M_memory : y_M_memory.cls = "CacheLevelsModel" ∧ y_M_memory.cls ≠ "java/lang/invoke/MethodHandle" ∧ y_M_memory.cls ≠ "java/lang/invoke/VarHandle" ∧ (parseMethodDescriptor y_M_memory.desc).map (fun d => d.parameters.length) = some 1 := by decide +kernel
abbrev b_M_line : ByteArray := prog_5_method_37_code
def y_M_line : MethodName := ⟨"CacheLevelsModel", "line", "(III)I"⟩
theorem cd_M_line : Cond.code y_M_line b_M_line 7 (some .int) ∈ tbW := tw 647 (by decide +kernel) (by decide +kernel)
theorem in_M_line : Cond.instanceMethod y_M_line ∈ tbW := tw 645 (by decide +kernel) (by decide +kernel)
theorem se_M_line : Cond.selects "CacheLevelsModel" y_M_line y_M_line ∈ tbW := tw 646 (by decide +kernel) (by decide +kernel)
theorem hd_M_line : y_M_line.cls = "CacheLevelsModel" ∧ y_M_line.cls ≠ "java/lang/invoke/MethodHandle" ∧ y_M_line.cls ≠ "java/lang/invoke/VarHandle" ∧ (parseMethodDescriptor y_M_line.desc).map (fun d => d.parameters.length) = some 3 := by decide +kernel
abbrev b_M_owner : ByteArray := prog_5_method_38_code
def y_M_owner : MethodName := ⟨"CacheLevelsModel", "owner", "(I)I"⟩
theorem cd_M_owner : Cond.code y_M_owner b_M_owner 3 (some .int) ∈ tbW := tw 651 (by decide +kernel) (by decide +kernel)
theorem in_M_owner : Cond.instanceMethod y_M_owner ∈ tbW := tw 649 (by decide +kernel) (by decide +kernel)
theorem se_M_owner : Cond.selects "CacheLevelsModel" y_M_owner y_M_owner ∈ tbW := tw 650 (by decide +kernel) (by decide +kernel)
theorem hd_M_owner : y_M_owner.cls = "CacheLevelsModel" ∧ y_M_owner.cls ≠ "java/lang/invoke/MethodHandle" ∧ y_M_owner.cls ≠ "java/lang/invoke/VarHandle" ∧ (parseMethodDescriptor y_M_owner.desc).map (fun d => d.parameters.length) = some 1 := by decide +kernel
abbrev b_M_directory : ByteArray := prog_5_method_39_code
def y_M_directory : MethodName := ⟨"CacheLevelsModel", "directory", "(I)I"⟩
theorem cd_M_directory : Cond.code y_M_directory b_M_directory 4 (some .int) ∈ tbW := tw 655 (by decide +kernel) (by decide +kernel)
theorem in_M_directory : Cond.instanceMethod y_M_directory ∈ tbW := tw 653 (by decide +kernel) (by decide +kernel)
theorem se_M_directory : Cond.selects "CacheLevelsModel" y_M_directory y_M_directory ∈ tbW := tw 654 (by decide +kernel) (by decide +kernel)
theorem hd_M_directory : y_M_directory.cls = "CacheLevelsModel" ∧ y_M_directory.cls ≠ "java/lang/invoke/MethodHandle" ∧ y_M_directory.cls ≠ "java/lang/invoke/VarHandle" ∧ (parseMethodDescriptor y_M_directory.desc).map (fun d => d.parameters.length) = some 1 := by decide +kernel
abbrev b_M_core : ByteArray := prog_5_method_40_code
def y_M_core : MethodName := ⟨"CacheLevelsModel", "core", "(II)I"⟩
theorem cd_M_core : Cond.code y_M_core b_M_core 5 (some .int) ∈ tbW := tw 659 (by decide +kernel) (by decide +kernel)
theorem in_M_core : Cond.instanceMethod y_M_core ∈ tbW := tw 657 (by decide +kernel) (by decide +kernel)
theorem se_M_core : Cond.selects "CacheLevelsModel" y_M_core y_M_core ∈ tbW := tw 658 (by decide +kernel) (by decide +kernel)
theorem hd_M_core : y_M_core.cls = "CacheLevelsModel" ∧ y_M_core.cls ≠ "java/lang/invoke/MethodHandle" ∧ y_M_core.cls ≠ "java/lang/invoke/VarHandle" ∧ (parseMethodDescriptor y_M_core.desc).map (fun d => d.parameters.length) = some 2 := by decide +kernel
abbrev b_M_count : ByteArray := prog_5_method_41_code
def y_M_count : MethodName := ⟨"CacheLevelsModel", "count", "(I)I"⟩
theorem cd_M_count : Cond.code y_M_count b_M_count 2 (some .int) ∈ tbW := tw 663 (by decide +kernel) (by decide +kernel)
theorem in_M_count : Cond.instanceMethod y_M_count ∈ tbW := tw 661 (by decide +kernel) (by decide +kernel)
theorem se_M_count : Cond.selects "CacheLevelsModel" y_M_count y_M_count ∈ tbW := tw 662 (by decide +kernel) (by decide +kernel)
theorem hd_M_count : y_M_count.cls = "CacheLevelsModel" ∧ y_M_count.cls ≠ "java/lang/invoke/MethodHandle" ∧ y_M_count.cls ≠ "java/lang/invoke/VarHandle" ∧ (parseMethodDescriptor y_M_count.desc).map (fun d => d.parameters.length) = some 1 := by decide +kernel
theorem k_B_15 : Cond.fieldLink "CacheLevels$Bank" 15 "CacheLevels$Bank" "sets" "I" ∈ tbW := tw 31 (by decide +kernel) (by decide +kernel)
theorem k_C_129 : Cond.fieldLink "CacheLevels" 129 "CacheLevels$Bank" "sets" "I" ∈ tbW := tw 32 (by decide +kernel) (by decide +kernel)
theorem k_B_21 : Cond.fieldLink "CacheLevels$Bank" 21 "CacheLevels$Bank" "ways" "I" ∈ tbW := tw 33 (by decide +kernel) (by decide +kernel)
theorem k_C_142 : Cond.fieldLink "CacheLevels" 142 "CacheLevels$Bank" "ways" "I" ∈ tbW := tw 34 (by decide +kernel) (by decide +kernel)
theorem k_B_24 : Cond.fieldLink "CacheLevels$Bank" 24 "CacheLevels$Bank" "sizes" "[I" ∈ tbW := tw 35 (by decide +kernel) (by decide +kernel)
theorem k_B_28 : Cond.fieldLink "CacheLevels$Bank" 28 "CacheLevels$Bank" "lines" "[I" ∈ tbW := tw 36 (by decide +kernel) (by decide +kernel)
theorem k_B_31 : Cond.fieldLink "CacheLevels$Bank" 31 "CacheLevels$Bank" "versions" "[I" ∈ tbW := tw 37 (by decide +kernel) (by decide +kernel)
theorem k_B_34 : Cond.fieldLink "CacheLevels$Bank" 34 "CacheLevels$Bank" "owners" "[I" ∈ tbW := tw 38 (by decide +kernel) (by decide +kernel)
theorem k_B_37 : Cond.fieldLink "CacheLevels$Bank" 37 "CacheLevels$Bank" "written" "[Z" ∈ tbW := tw 39 (by decide +kernel) (by decide +kernel)
theorem k_V_25 : Cond.fieldLink "CacheLevels$Versions" 25 "CacheLevels$Versions" "writeBacks" "I" ∈ tbW := tw 63 (by decide +kernel) (by decide +kernel)
theorem k_C_89 : Cond.fieldLink "CacheLevels" 89 "CacheLevels$Versions" "writeBacks" "I" ∈ tbW := tw 64 (by decide +kernel) (by decide +kernel)
theorem k_V_29 : Cond.fieldLink "CacheLevels$Versions" 29 "CacheLevels$Versions" "size" "I" ∈ tbW := tw 65 (by decide +kernel) (by decide +kernel)
theorem k_V_11 : Cond.fieldLink "CacheLevels$Versions" 11 "CacheLevels$Versions" "lines" "[I" ∈ tbW := tw 66 (by decide +kernel) (by decide +kernel)
theorem k_V_15 : Cond.fieldLink "CacheLevels$Versions" 15 "CacheLevels$Versions" "newest" "[I" ∈ tbW := tw 67 (by decide +kernel) (by decide +kernel)
theorem k_V_18 : Cond.fieldLink "CacheLevels$Versions" 18 "CacheLevels$Versions" "stored" "[I" ∈ tbW := tw 68 (by decide +kernel) (by decide +kernel)
theorem k_C_15 : Cond.fieldLink "CacheLevels" 15 "CacheLevels" "cores" "I" ∈ tbW := tw 80 (by decide +kernel) (by decide +kernel)
theorem k_C_19 : Cond.fieldLink "CacheLevels" 19 "CacheLevels" "keeping" "I" ∈ tbW := tw 81 (by decide +kernel) (by decide +kernel)
theorem k_C_27 : Cond.fieldLink "CacheLevels" 27 "CacheLevels" "first" "LCacheLevels$Bank;" ∈ tbW := tw 82 (by decide +kernel) (by decide +kernel)
theorem k_C_31 : Cond.fieldLink "CacheLevels" 31 "CacheLevels" "second" "LCacheLevels$Bank;" ∈ tbW := tw 83 (by decide +kernel) (by decide +kernel)
theorem k_C_37 : Cond.fieldLink "CacheLevels" 37 "CacheLevels" "versions" "LCacheLevels$Versions;" ∈ tbW := tw 84 (by decide +kernel) (by decide +kernel)
theorem k_C_41 : Cond.fieldLink "CacheLevels" 41 "CacheLevels" "quotas" "[I" ∈ tbW := tw 85 (by decide +kernel) (by decide +kernel)
theorem k_C_45 : Cond.fieldLink "CacheLevels" 45 "CacheLevels" "tallies" "[I" ∈ tbW := tw 86 (by decide +kernel) (by decide +kernel)
theorem k_C_48 : Cond.fieldLink "CacheLevels" 48 "CacheLevels" "passFrom" "I" ∈ tbW := tw 87 (by decide +kernel) (by decide +kernel)
theorem k_C_51 : Cond.fieldLink "CacheLevels" 51 "CacheLevels" "passTo" "I" ∈ tbW := tw 88 (by decide +kernel) (by decide +kernel)
theorem k_C_54 : Cond.fieldLink "CacheLevels" 54 "CacheLevels" "handedOver" "I" ∈ tbW := tw 89 (by decide +kernel) (by decide +kernel)
theorem k_C_3 : Cond.methodLink "CacheLevels" 3 ⟨"java/lang/Object", "<init>", "()V"⟩ ∈ tbW := tw 16 (by decide +kernel) (by decide +kernel)
theorem k_C_9 : Cond.methodLink "CacheLevels" 9 y_Math_floorMod ∈ tbW := tw 19 (by decide +kernel) (by decide +kernel)
theorem k_C_24 : Cond.methodLink "CacheLevels" 24 y_B_init ∈ tbW := tw 24 (by decide +kernel) (by decide +kernel)
theorem k_B_3 : Cond.methodLink "CacheLevels$Bank" 3 ⟨"java/lang/Object", "<init>", "()V"⟩ ∈ tbW := tw 27 (by decide +kernel) (by decide +kernel)
theorem k_B_9 : Cond.methodLink "CacheLevels$Bank" 9 y_Math_max ∈ tbW := tw 28 (by decide +kernel) (by decide +kernel)
theorem k_C_36 : Cond.methodLink "CacheLevels" 36 y_V_init ∈ tbW := tw 59 (by decide +kernel) (by decide +kernel)
theorem k_V_3 : Cond.methodLink "CacheLevels$Versions" 3 ⟨"java/lang/Object", "<init>", "()V"⟩ ∈ tbW := tw 62 (by decide +kernel) (by decide +kernel)
theorem k_C_92 : Cond.methodLink "CacheLevels" 92 y_B_slots ∈ tbW := tw 119 (by decide +kernel) (by decide +kernel)
theorem k_C_96 : Cond.methodLink "CacheLevels" 96 y_B_isWritten ∈ tbW := tw 123 (by decide +kernel) (by decide +kernel)
theorem k_B_48 : Cond.methodLink "CacheLevels$Bank" 48 y_B_isSlot ∈ tbW := tw 127 (by decide +kernel) (by decide +kernel)
theorem k_C_100 : Cond.methodLink "CacheLevels" 100 y_B_lineAt ∈ tbW := tw 131 (by decide +kernel) (by decide +kernel)
theorem k_C_104 : Cond.methodLink "CacheLevels" 104 y_C_writtenInFirst ∈ tbW := tw 135 (by decide +kernel) (by decide +kernel)
theorem k_C_72 : Cond.methodLink "CacheLevels" 72 y_B_find ∈ tbW := tw 139 (by decide +kernel) (by decide +kernel)
theorem k_B_52 : Cond.methodLink "CacheLevels$Bank" 52 y_B_placeOf ∈ tbW := tw 143 (by decide +kernel) (by decide +kernel)
theorem k_B_41 : Cond.methodLink "CacheLevels$Bank" 41 y_Math_floorMod ∈ tbW := tw 147 (by decide +kernel) (by decide +kernel)
theorem k_B_44 : Cond.methodLink "CacheLevels$Bank" 44 y_B_size ∈ tbW := tw 148 (by decide +kernel) (by decide +kernel)
theorem k_B_55 : Cond.methodLink "CacheLevels$Bank" 55 y_B_lineAt ∈ tbW := tw 152 (by decide +kernel) (by decide +kernel)
theorem k_C_107 : Cond.methodLink "CacheLevels" 107 y_B_versionAt ∈ tbW := tw 153 (by decide +kernel) (by decide +kernel)
theorem k_C_110 : Cond.methodLink "CacheLevels" 110 y_V_writeBack ∈ tbW := tw 157 (by decide +kernel) (by decide +kernel)
theorem k_V_21 : Cond.methodLink "CacheLevels$Versions" 21 y_V_indexOf ∈ tbW := tw 161 (by decide +kernel) (by decide +kernel)
theorem k_C_113 : Cond.methodLink "CacheLevels" 113 y_B_clear ∈ tbW := tw 165 (by decide +kernel) (by decide +kernel)
theorem k_C_126 : Cond.methodLink "CacheLevels" 126 y_V_inMemory ∈ tbW := tw 173 (by decide +kernel) (by decide +kernel)
theorem k_C_145 : Cond.methodLink "CacheLevels" 145 y_B_ownerAt ∈ tbW := tw 181 (by decide +kernel) (by decide +kernel)
theorem k_C_153 : Cond.methodLink "CacheLevels" 153 y_B_total ∈ tbW := tw 193 (by decide +kernel) (by decide +kernel)
theorem k_C_57 : Cond.methodLink "CacheLevels" 57 y_C_requireCore ∈ tbW := tw 209 (by decide +kernel) (by decide +kernel)
theorem k_C_136 : Cond.methodLink "CacheLevels" 136 ⟨"java/lang/IndexOutOfBoundsException", "<init>", "(Ljava/lang/String;)V"⟩ ∈ tbW := tw 254 (by decide +kernel) (by decide +kernel)
theorem k_C_65 : Cond.methodLink "CacheLevels" 65 ⟨"java/lang/IllegalArgumentException", "<init>", "(Ljava/lang/String;)V"⟩ ∈ tbW := tw 290 (by decide +kernel) (by decide +kernel)
theorem k_C_68 : Cond.methodLink "CacheLevels" 68 y_C_tally ∈ tbW := tw 296 (by decide +kernel) (by decide +kernel)
theorem k_C_75 : Cond.methodLink "CacheLevels" 75 y_B_useLast ∈ tbW := tw 300 (by decide +kernel) (by decide +kernel)
theorem k_B_71 : Cond.methodLink "CacheLevels$Bank" 71 y_B_swap ∈ tbW := tw 304 (by decide +kernel) (by decide +kernel)
theorem k_C_78 : Cond.methodLink "CacheLevels" 78 y_C_handOver ∈ tbW := tw 308 (by decide +kernel) (by decide +kernel)
theorem k_C_158 : Cond.methodLink "CacheLevels" 158 y_B_clean ∈ tbW := tw 312 (by decide +kernel) (by decide +kernel)
theorem k_C_161 : Cond.methodLink "CacheLevels" 161 y_C_writeDown ∈ tbW := tw 316 (by decide +kernel) (by decide +kernel)
theorem k_C_164 : Cond.methodLink "CacheLevels" 164 y_B_rewrite ∈ tbW := tw 320 (by decide +kernel) (by decide +kernel)
theorem k_C_81 : Cond.methodLink "CacheLevels" 81 y_C_bring ∈ tbW := tw 324 (by decide +kernel) (by decide +kernel)
theorem k_C_167 : Cond.methodLink "CacheLevels" 167 y_C_passesBy ∈ tbW := tw 328 (by decide +kernel) (by decide +kernel)
theorem k_C_170 : Cond.methodLink "CacheLevels" 170 y_C_comeIntoSecond ∈ tbW := tw 332 (by decide +kernel) (by decide +kernel)
theorem k_C_180 : Cond.methodLink "CacheLevels" 180 y_B_placeOf ∈ tbW := tw 336 (by decide +kernel) (by decide +kernel)
theorem k_C_199 : Cond.methodLink "CacheLevels" 199 y_B_ownedAt ∈ tbW := tw 337 (by decide +kernel) (by decide +kernel)
theorem k_B_58 : Cond.methodLink "CacheLevels$Bank" 58 y_B_ownerAt ∈ tbW := tw 341 (by decide +kernel) (by decide +kernel)
theorem k_C_202 : Cond.methodLink "CacheLevels" 202 y_B_oldestOwned ∈ tbW := tw 342 (by decide +kernel) (by decide +kernel)
theorem k_C_205 : Cond.methodLink "CacheLevels" 205 y_C_leaveSecond ∈ tbW := tw 346 (by decide +kernel) (by decide +kernel)
theorem k_C_174 : Cond.methodLink "CacheLevels" 174 y_B_drop ∈ tbW := tw 350 (by decide +kernel) (by decide +kernel)
theorem k_B_75 : Cond.methodLink "CacheLevels$Bank" 75 y_B_oldest ∈ tbW := tw 354 (by decide +kernel) (by decide +kernel)
theorem k_B_78 : Cond.methodLink "CacheLevels$Bank" 78 y_B_clean ∈ tbW := tw 358 (by decide +kernel) (by decide +kernel)
theorem k_C_190 : Cond.methodLink "CacheLevels" 190 y_B_isFull ∈ tbW := tw 359 (by decide +kernel) (by decide +kernel)
theorem k_C_193 : Cond.methodLink "CacheLevels" 193 y_B_oldest ∈ tbW := tw 363 (by decide +kernel) (by decide +kernel)
theorem k_C_183 : Cond.methodLink "CacheLevels" 183 y_B_put ∈ tbW := tw 364 (by decide +kernel) (by decide +kernel)
theorem k_B_64 : Cond.methodLink "CacheLevels$Bank" 64 y_B_isFull ∈ tbW := tw 368 (by decide +kernel) (by decide +kernel)
theorem k_B_67 : Cond.methodLink "CacheLevels$Bank" 67 y_B_useLast ∈ tbW := tw 369 (by decide +kernel) (by decide +kernel)
theorem k_C_177 : Cond.methodLink "CacheLevels" 177 y_C_makeRoomInFirst ∈ tbW := tw 370 (by decide +kernel) (by decide +kernel)
theorem k_C_196 : Cond.methodLink "CacheLevels" 196 y_C_directory ∈ tbW := tw 374 (by decide +kernel) (by decide +kernel)
theorem k_C_84 : Cond.methodLink "CacheLevels" 84 y_C_write ∈ tbW := tw 375 (by decide +kernel) (by decide +kernel)
theorem k_C_187 : Cond.methodLink "CacheLevels" 187 y_V_makeNext ∈ tbW := tw 379 (by decide +kernel) (by decide +kernel)
theorem k_C_116 : Cond.methodLink "CacheLevels" 116 y_C_requireCoreOrNone ∈ tbW := tw 398 (by decide +kernel) (by decide +kernel)
theorem k_C_119 : Cond.methodLink "CacheLevels" 119 y_C_bankOf ∈ tbW := tw 402 (by decide +kernel) (by decide +kernel)
theorem k_C_123 : Cond.methodLink "CacheLevels" 123 y_C_groupOf ∈ tbW := tw 406 (by decide +kernel) (by decide +kernel)
theorem k_C_137 : Cond.methodLink "CacheLevels" 137 y_B_size ∈ tbW := tw 424 (by decide +kernel) (by decide +kernel)
theorem k_C_150 : Cond.methodLink "CacheLevels" 150 y_B_ownedBy ∈ tbW := tw 434 (by decide +kernel) (by decide +kernel)
theorem k_B_61 : Cond.methodLink "CacheLevels$Bank" 61 y_B_ownedAt ∈ tbW := tw 438 (by decide +kernel) (by decide +kernel)
theorem k_C_22 : Cond.classLink "CacheLevels" 22 "CacheLevels$Bank" ∈ tbW := tw 22 (by decide +kernel) (by decide +kernel)
theorem k_C_34 : Cond.classLink "CacheLevels" 34 "CacheLevels$Versions" ∈ tbW := tw 57 (by decide +kernel) (by decide +kernel)
theorem k_C_132 : Cond.classLink "CacheLevels" 132 "java/lang/IndexOutOfBoundsException" ∈ tbW := tw 213 (by decide +kernel) (by decide +kernel)
theorem k_C_61 : Cond.classLink "CacheLevels" 61 "java/lang/IllegalArgumentException" ∈ tbW := tw 280 (by decide +kernel) (by decide +kernel)
theorem ini_C : Cond.initialized "CacheLevels" ∈ tbW := tw 1 (by decide +kernel) (by decide +kernel)
theorem ini_Math : Cond.initialized "java/lang/Math" ∈ tbW := tw 2 (by decide +kernel) (by decide +kernel)
theorem ini_B : Cond.initialized "CacheLevels$Bank" ∈ tbW := tw 3 (by decide +kernel) (by decide +kernel)
theorem ini_V : Cond.initialized "CacheLevels$Versions" ∈ tbW := tw 4 (by decide +kernel) (by decide +kernel)
theorem it_C : Cond.instantiable "CacheLevels" 10 ∈ tbW := tw 12 (by decide +kernel) (by decide +kernel)
theorem it_B : Cond.instantiable "CacheLevels$Bank" 7 ∈ tbW := tw 23 (by decide +kernel) (by decide +kernel)
theorem it_V : Cond.instantiable "CacheLevels$Versions" 5 ∈ tbW := tw 58 (by decide +kernel) (by decide +kernel)
