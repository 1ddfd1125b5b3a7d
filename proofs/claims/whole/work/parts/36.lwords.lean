/-! ===== words of the law's calls ===== -/
theorem goodSH {own : String} {idx : Nat} {y : MethodName} {cc' : ByteArray} {maxL' : Nat} {ret' : Option FieldType} {hh : List (Nat × Nat × Nat × Nat)} (h1 : Cond.methodLink own idx y ∈ WA) (h2 : Cond.static y ∈ WA) (h4 : Cond.initialized y.cls ∈ WA) (h5 : Cond.codeWith y cc' maxL' ret' hh ∈ WA) : GoodIn WA (va_wsS own idx y (.codeWith y cc' maxL' ret' hh :: WA)) := by
  intro w hw
  have hm : w ∈ WA := by
    simp only [va_wsS, List.mem_append, List.mem_cons, List.not_mem_nil, or_false] at hw
    rcases hw with (rfl | rfl | rfl) | rfl | hw <;> assumption
  exact ⟨hm, good_of_word (List.mem_filter.mp hm).2⟩
theorem kB_63 : (Int8.ofInt (63)).toInt32 = (63 : Int32) := by decide
theorem wcX11_init : Cond.code yX11_init cX11_init 1 none ∈ WA := wa_of 135 (by decide +kernel) rfl
theorem wiX11_init : Cond.instanceMethod yX11_init ∈ WA := wa_of 134 (by decide +kernel) rfl
theorem wpX11_init : yX11_init.cls ≠ "java/lang/invoke/MethodHandle" ∧ yX11_init.cls ≠ "java/lang/invoke/VarHandle" ∧ (parseMethodDescriptor yX11_init.desc).map (fun d => d.parameters.length) = some 0 := by decide +kernel
theorem cwL_119 : CWI RL 119 yX11_init cX11_init 1 0 := ⟨wa_of 133 (by decide +kernel) rfl, wiX11_init, wnX11, wcX11_init, rfl, wpX11_init⟩
theorem wcX12_init : Cond.code yX12_init cX12_init 1 none ∈ WA := wa_of 1538 (by decide +kernel) rfl
theorem wiX12_init : Cond.instanceMethod yX12_init ∈ WA := wa_of 1537 (by decide +kernel) rfl
theorem wpX12_init : yX12_init.cls ≠ "java/lang/invoke/MethodHandle" ∧ yX12_init.cls ≠ "java/lang/invoke/VarHandle" ∧ (parseMethodDescriptor yX12_init.desc).map (fun d => d.parameters.length) = some 0 := by decide +kernel
theorem cwL_122 : CWI RL 122 yX12_init cX12_init 1 0 := ⟨wa_of 1536 (by decide +kernel) rfl, wiX12_init, wnX12, wcX12_init, rfl, wpX12_init⟩
theorem wcX11_feed : Cond.code yX11_feed cX11_feed 6 (some .int) ∈ WA := wa_of 532 (by decide +kernel) rfl
theorem wiX11_feed : Cond.instanceMethod yX11_feed ∈ WA := wa_of 530 (by decide +kernel) rfl
theorem wsX11_feed : Cond.selects yX11_feed.cls yX11_feed yX11_feed ∈ WA := wa_of 531 (by decide +kernel) rfl
theorem wpX11_feed : yX11_feed.cls ≠ "java/lang/invoke/MethodHandle" ∧ yX11_feed.cls ≠ "java/lang/invoke/VarHandle" ∧ (parseMethodDescriptor yX11_feed.desc).map (fun d => d.parameters.length) = some 5 := by decide +kernel
theorem cwL_123 : CWV RL 123 yX11_feed cX11_feed 6 (some .int) 5 := ⟨goodV (wa_of 529 (by decide +kernel) rfl) wiX11_feed wsX11_feed wnX11 wcX11_feed, wpX11_feed⟩
theorem wcX12_feed : Cond.code yX12_feed cX12_feed 8 (some .int) ∈ WA := wa_of 1702 (by decide +kernel) rfl
theorem wiX12_feed : Cond.instanceMethod yX12_feed ∈ WA := wa_of 1700 (by decide +kernel) rfl
theorem wsX12_feed : Cond.selects yX12_feed.cls yX12_feed yX12_feed ∈ WA := wa_of 1701 (by decide +kernel) rfl
theorem wpX12_feed : yX12_feed.cls ≠ "java/lang/invoke/MethodHandle" ∧ yX12_feed.cls ≠ "java/lang/invoke/VarHandle" ∧ (parseMethodDescriptor yX12_feed.desc).map (fun d => d.parameters.length) = some 5 := by decide +kernel
theorem cwL_127 : CWV RL 127 yX12_feed cX12_feed 8 (some .int) 5 := ⟨goodV (wa_of 1699 (by decide +kernel) rfl) wiX12_feed wsX12_feed wnX12 wcX12_feed, wpX12_feed⟩
theorem wtL_hut : Cond.static yL_hut ∈ WA := wa_of 648 (by decide +kernel) rfl
theorem wpL_hut : yL_hut.cls ≠ "java/lang/invoke/MethodHandle" ∧ yL_hut.cls ≠ "java/lang/invoke/VarHandle" ∧ (parseMethodDescriptor yL_hut.desc).map (fun d => d.parameters.length) = some 3 := by decide +kernel
theorem wnL : Cond.initialized RL ∈ WA := wa_of 102 (by decide +kernel) rfl
theorem wcL_hut : Cond.codeWith yL_hut cL_hut 4 (some .int) hhL_hut ∈ WA := wa_of 649 (by decide +kernel) rfl
theorem cwL_128 : CWH RL 128 yL_hut cL_hut 4 (some .int) hhL_hut 3 := ⟨goodSH (wa_of 647 (by decide +kernel) rfl) wtL_hut wnL wcL_hut, wpL_hut⟩
theorem wcX12_hut : Cond.code yX12_hut cX12_hut 2 (some .int) ∈ WA := wa_of 1706 (by decide +kernel) rfl
theorem wiX12_hut : Cond.instanceMethod yX12_hut ∈ WA := wa_of 1704 (by decide +kernel) rfl
theorem wsX12_hut : Cond.selects yX12_hut.cls yX12_hut yX12_hut ∈ WA := wa_of 1705 (by decide +kernel) rfl
theorem wpX12_hut : yX12_hut.cls ≠ "java/lang/invoke/MethodHandle" ∧ yX12_hut.cls ≠ "java/lang/invoke/VarHandle" ∧ (parseMethodDescriptor yX12_hut.desc).map (fun d => d.parameters.length) = some 1 := by decide +kernel
theorem cwL_133 : CWV RL 133 yX12_hut cX12_hut 2 (some .int) 1 := ⟨goodV (wa_of 1703 (by decide +kernel) rfl) wiX12_hut wsX12_hut wnX12 wcX12_hut, wpX12_hut⟩
theorem wcX12_thrown : Cond.code yX12_thrown cX12_thrown 1 (some .int) ∈ WA := wa_of 1698 (by decide +kernel) rfl
theorem wiX12_thrown : Cond.instanceMethod yX12_thrown ∈ WA := wa_of 1696 (by decide +kernel) rfl
theorem wsX12_thrown : Cond.selects yX12_thrown.cls yX12_thrown yX12_thrown ∈ WA := wa_of 1697 (by decide +kernel) rfl
theorem wpX12_thrown : yX12_thrown.cls ≠ "java/lang/invoke/MethodHandle" ∧ yX12_thrown.cls ≠ "java/lang/invoke/VarHandle" ∧ (parseMethodDescriptor yX12_thrown.desc).map (fun d => d.parameters.length) = some 0 := by decide +kernel
theorem cwL_134 : CWV RL 134 yX12_thrown cX12_thrown 1 (some .int) 0 := ⟨goodV (wa_of 1695 (by decide +kernel) rfl) wiX12_thrown wsX12_thrown wnX12 wcX12_thrown, wpX12_thrown⟩
theorem wtL_law : Cond.static yL_law ∈ WA := wa_of 909 (by decide +kernel) rfl
theorem wpL_law : yL_law.cls ≠ "java/lang/invoke/MethodHandle" ∧ yL_law.cls ≠ "java/lang/invoke/VarHandle" ∧ (parseMethodDescriptor yL_law.desc).map (fun d => d.parameters.length) = some 3 := by decide +kernel
theorem wcL_law : Cond.codeWith yL_law cL_law 4 (some .int) hhL_law ∈ WA := wa_of 910 (by decide +kernel) rfl
theorem cwL_138 : CWH RL 138 yL_law cL_law 4 (some .int) hhL_law 3 := ⟨goodSH (wa_of 908 (by decide +kernel) rfl) wtL_law wnL wcL_law, wpL_law⟩
theorem wcX12_law : Cond.code yX12_law cX12_law 2 (some .int) ∈ WA := wa_of 1775 (by decide +kernel) rfl
theorem wiX12_law : Cond.instanceMethod yX12_law ∈ WA := wa_of 1773 (by decide +kernel) rfl
theorem wsX12_law : Cond.selects yX12_law.cls yX12_law yX12_law ∈ WA := wa_of 1774 (by decide +kernel) rfl
theorem wpX12_law : yX12_law.cls ≠ "java/lang/invoke/MethodHandle" ∧ yX12_law.cls ≠ "java/lang/invoke/VarHandle" ∧ (parseMethodDescriptor yX12_law.desc).map (fun d => d.parameters.length) = some 1 := by decide +kernel
theorem cwL_140 : CWV RL 140 yX12_law cX12_law 2 (some .int) 1 := ⟨goodV (wa_of 1772 (by decide +kernel) rfl) wiX12_law wsX12_law wnX12 wcX12_law, wpX12_law⟩
theorem wtL_work : Cond.static yL_work ∈ WA := wa_of 961 (by decide +kernel) rfl
theorem wpL_work : yL_work.cls ≠ "java/lang/invoke/MethodHandle" ∧ yL_work.cls ≠ "java/lang/invoke/VarHandle" ∧ (parseMethodDescriptor yL_work.desc).map (fun d => d.parameters.length) = some 3 := by decide +kernel
theorem wcL_work : Cond.codeWith yL_work cL_work 4 (some .int) hhL_work ∈ WA := wa_of 962 (by decide +kernel) rfl
theorem cwL_141 : CWH RL 141 yL_work cL_work 4 (some .int) hhL_work 3 := ⟨goodSH (wa_of 960 (by decide +kernel) rfl) wtL_work wnL wcL_work, wpL_work⟩
theorem wcX12_work : Cond.code yX12_work cX12_work 2 (some .int) ∈ WA := wa_of 1832 (by decide +kernel) rfl
theorem wiX12_work : Cond.instanceMethod yX12_work ∈ WA := wa_of 1830 (by decide +kernel) rfl
theorem wsX12_work : Cond.selects yX12_work.cls yX12_work yX12_work ∈ WA := wa_of 1831 (by decide +kernel) rfl
theorem wpX12_work : yX12_work.cls ≠ "java/lang/invoke/MethodHandle" ∧ yX12_work.cls ≠ "java/lang/invoke/VarHandle" ∧ (parseMethodDescriptor yX12_work.desc).map (fun d => d.parameters.length) = some 1 := by decide +kernel
theorem cwL_143 : CWV RL 143 yX12_work cX12_work 2 (some .int) 1 := ⟨goodV (wa_of 1829 (by decide +kernel) rfl) wiX12_work wsX12_work wnX12 wcX12_work, wpX12_work⟩
theorem wtL_chain : Cond.static yL_chain ∈ WA := wa_of 1096 (by decide +kernel) rfl
theorem wpL_chain : yL_chain.cls ≠ "java/lang/invoke/MethodHandle" ∧ yL_chain.cls ≠ "java/lang/invoke/VarHandle" ∧ (parseMethodDescriptor yL_chain.desc).map (fun d => d.parameters.length) = some 3 := by decide +kernel
theorem wcL_chain : Cond.codeWith yL_chain cL_chain 4 (some .int) hhL_chain ∈ WA := wa_of 1097 (by decide +kernel) rfl
theorem cwL_144 : CWH RL 144 yL_chain cL_chain 4 (some .int) hhL_chain 3 := ⟨goodSH (wa_of 1095 (by decide +kernel) rfl) wtL_chain wnL wcL_chain, wpL_chain⟩
theorem wcX12_chain : Cond.code yX12_chain cX12_chain 5 (some .int) ∈ WA := wa_of 1815 (by decide +kernel) rfl
theorem wiX12_chain : Cond.instanceMethod yX12_chain ∈ WA := wa_of 1813 (by decide +kernel) rfl
theorem wsX12_chain : Cond.selects yX12_chain.cls yX12_chain yX12_chain ∈ WA := wa_of 1814 (by decide +kernel) rfl
theorem wpX12_chain : yX12_chain.cls ≠ "java/lang/invoke/MethodHandle" ∧ yX12_chain.cls ≠ "java/lang/invoke/VarHandle" ∧ (parseMethodDescriptor yX12_chain.desc).map (fun d => d.parameters.length) = some 1 := by decide +kernel
theorem cwL_146 : CWV RL 146 yX12_chain cX12_chain 5 (some .int) 1 := ⟨goodV (wa_of 1812 (by decide +kernel) rfl) wiX12_chain wsX12_chain wnX12 wcX12_chain, wpX12_chain⟩
theorem wtL_book : Cond.static yL_book ∈ WA := wa_of 1111 (by decide +kernel) rfl
theorem wpL_book : yL_book.cls ≠ "java/lang/invoke/MethodHandle" ∧ yL_book.cls ≠ "java/lang/invoke/VarHandle" ∧ (parseMethodDescriptor yL_book.desc).map (fun d => d.parameters.length) = some 3 := by decide +kernel
theorem wcL_book : Cond.codeWith yL_book cL_book 4 (some .int) hhL_book ∈ WA := wa_of 1112 (by decide +kernel) rfl
theorem cwL_147 : CWH RL 147 yL_book cL_book 4 (some .int) hhL_book 3 := ⟨goodSH (wa_of 1110 (by decide +kernel) rfl) wtL_book wnL wcL_book, wpL_book⟩
theorem wcX12_book : Cond.code yX12_book cX12_book 6 (some .int) ∈ WA := wa_of 1823 (by decide +kernel) rfl
theorem wiX12_book : Cond.instanceMethod yX12_book ∈ WA := wa_of 1821 (by decide +kernel) rfl
theorem wsX12_book : Cond.selects yX12_book.cls yX12_book yX12_book ∈ WA := wa_of 1822 (by decide +kernel) rfl
theorem wpX12_book : yX12_book.cls ≠ "java/lang/invoke/MethodHandle" ∧ yX12_book.cls ≠ "java/lang/invoke/VarHandle" ∧ (parseMethodDescriptor yX12_book.desc).map (fun d => d.parameters.length) = some 1 := by decide +kernel
theorem cwL_149 : CWV RL 149 yX12_book cX12_book 6 (some .int) 1 := ⟨goodV (wa_of 1820 (by decide +kernel) rfl) wiX12_book wsX12_book wnX12 wcX12_book, wpX12_book⟩
theorem wcX11_fault : Cond.code yX11_fault cX11_fault 1 (some .int) ∈ WA := wa_of 540 (by decide +kernel) rfl
theorem wiX11_fault : Cond.instanceMethod yX11_fault ∈ WA := wa_of 538 (by decide +kernel) rfl
theorem wsX11_fault : Cond.selects yX11_fault.cls yX11_fault yX11_fault ∈ WA := wa_of 539 (by decide +kernel) rfl
theorem wpX11_fault : yX11_fault.cls ≠ "java/lang/invoke/MethodHandle" ∧ yX11_fault.cls ≠ "java/lang/invoke/VarHandle" ∧ (parseMethodDescriptor yX11_fault.desc).map (fun d => d.parameters.length) = some 0 := by decide +kernel
theorem cwL_150 : CWV RL 150 yX11_fault cX11_fault 1 (some .int) 0 := ⟨goodV (wa_of 537 (by decide +kernel) rfl) wiX11_fault wsX11_fault wnX11 wcX11_fault, wpX11_fault⟩
theorem wcX12_fault : Cond.code yX12_fault cX12_fault 1 (some .int) ∈ WA := wa_of 1828 (by decide +kernel) rfl
theorem wiX12_fault : Cond.instanceMethod yX12_fault ∈ WA := wa_of 1826 (by decide +kernel) rfl
theorem wsX12_fault : Cond.selects yX12_fault.cls yX12_fault yX12_fault ∈ WA := wa_of 1827 (by decide +kernel) rfl
theorem wpX12_fault : yX12_fault.cls ≠ "java/lang/invoke/MethodHandle" ∧ yX12_fault.cls ≠ "java/lang/invoke/VarHandle" ∧ (parseMethodDescriptor yX12_fault.desc).map (fun d => d.parameters.length) = some 0 := by decide +kernel
theorem cwL_153 : CWV RL 153 yX12_fault cX12_fault 1 (some .int) 0 := ⟨goodV (wa_of 1825 (by decide +kernel) rfl) wiX12_fault wsX12_fault wnX12 wcX12_fault, wpX12_fault⟩
theorem wcX11_undo : Cond.code yX11_undo cX11_undo 1 (some .int) ∈ WA := wa_of 544 (by decide +kernel) rfl
theorem wiX11_undo : Cond.instanceMethod yX11_undo ∈ WA := wa_of 542 (by decide +kernel) rfl
theorem wsX11_undo : Cond.selects yX11_undo.cls yX11_undo yX11_undo ∈ WA := wa_of 543 (by decide +kernel) rfl
theorem wpX11_undo : yX11_undo.cls ≠ "java/lang/invoke/MethodHandle" ∧ yX11_undo.cls ≠ "java/lang/invoke/VarHandle" ∧ (parseMethodDescriptor yX11_undo.desc).map (fun d => d.parameters.length) = some 0 := by decide +kernel
theorem cwL_154 : CWV RL 154 yX11_undo cX11_undo 1 (some .int) 0 := ⟨goodV (wa_of 541 (by decide +kernel) rfl) wiX11_undo wsX11_undo wnX11 wcX11_undo, wpX11_undo⟩
theorem wcX12_undo : Cond.code yX12_undo cX12_undo 1 (some .int) ∈ WA := wa_of 1942 (by decide +kernel) rfl
theorem wiX12_undo : Cond.instanceMethod yX12_undo ∈ WA := wa_of 1940 (by decide +kernel) rfl
theorem wsX12_undo : Cond.selects yX12_undo.cls yX12_undo yX12_undo ∈ WA := wa_of 1941 (by decide +kernel) rfl
theorem wpX12_undo : yX12_undo.cls ≠ "java/lang/invoke/MethodHandle" ∧ yX12_undo.cls ≠ "java/lang/invoke/VarHandle" ∧ (parseMethodDescriptor yX12_undo.desc).map (fun d => d.parameters.length) = some 0 := by decide +kernel
theorem cwL_157 : CWV RL 157 yX12_undo cX12_undo 1 (some .int) 0 := ⟨goodV (wa_of 1939 (by decide +kernel) rfl) wiX12_undo wsX12_undo wnX12 wcX12_undo, wpX12_undo⟩
theorem wtL_told : Cond.static yL_told ∈ WA := wa_of 1127 (by decide +kernel) rfl
theorem wpL_told : yL_told.cls ≠ "java/lang/invoke/MethodHandle" ∧ yL_told.cls ≠ "java/lang/invoke/VarHandle" ∧ (parseMethodDescriptor yL_told.desc).map (fun d => d.parameters.length) = some 3 := by decide +kernel
theorem wcL_told : Cond.codeWith yL_told cL_told 4 (some .int) hhL_told ∈ WA := wa_of 1128 (by decide +kernel) rfl
theorem cwL_158 : CWH RL 158 yL_told cL_told 4 (some .int) hhL_told 3 := ⟨goodSH (wa_of 1126 (by decide +kernel) rfl) wtL_told wnL wcL_told, wpL_told⟩
theorem wcX12_told : Cond.code yX12_told cX12_told 5 (some .int) ∈ WA := wa_of 1946 (by decide +kernel) rfl
theorem wiX12_told : Cond.instanceMethod yX12_told ∈ WA := wa_of 1944 (by decide +kernel) rfl
theorem wsX12_told : Cond.selects yX12_told.cls yX12_told yX12_told ∈ WA := wa_of 1945 (by decide +kernel) rfl
theorem wpX12_told : yX12_told.cls ≠ "java/lang/invoke/MethodHandle" ∧ yX12_told.cls ≠ "java/lang/invoke/VarHandle" ∧ (parseMethodDescriptor yX12_told.desc).map (fun d => d.parameters.length) = some 1 := by decide +kernel
theorem cwL_160 : CWV RL 160 yX12_told cX12_told 5 (some .int) 1 := ⟨goodV (wa_of 1943 (by decide +kernel) rfl) wiX12_told wsX12_told wnX12 wcX12_told, wpX12_told⟩
theorem wtL_pen : Cond.static yL_pen ∈ WA := wa_of 1146 (by decide +kernel) rfl
theorem wpL_pen : yL_pen.cls ≠ "java/lang/invoke/MethodHandle" ∧ yL_pen.cls ≠ "java/lang/invoke/VarHandle" ∧ (parseMethodDescriptor yL_pen.desc).map (fun d => d.parameters.length) = some 4 := by decide +kernel
theorem wcL_pen : Cond.codeWith yL_pen cL_pen 5 (some .int) hhL_pen ∈ WA := wa_of 1147 (by decide +kernel) rfl
theorem cwL_161 : CWH RL 161 yL_pen cL_pen 5 (some .int) hhL_pen 4 := ⟨goodSH (wa_of 1145 (by decide +kernel) rfl) wtL_pen wnL wcL_pen, wpL_pen⟩
theorem wcX12_pen : Cond.code yX12_pen cX12_pen 3 (some .int) ∈ WA := wa_of 1954 (by decide +kernel) rfl
theorem wiX12_pen : Cond.instanceMethod yX12_pen ∈ WA := wa_of 1952 (by decide +kernel) rfl
theorem wsX12_pen : Cond.selects yX12_pen.cls yX12_pen yX12_pen ∈ WA := wa_of 1953 (by decide +kernel) rfl
theorem wpX12_pen : yX12_pen.cls ≠ "java/lang/invoke/MethodHandle" ∧ yX12_pen.cls ≠ "java/lang/invoke/VarHandle" ∧ (parseMethodDescriptor yX12_pen.desc).map (fun d => d.parameters.length) = some 2 := by decide +kernel
theorem cwL_164 : CWV RL 164 yX12_pen cX12_pen 3 (some .int) 2 := ⟨goodV (wa_of 1951 (by decide +kernel) rfl) wiX12_pen wsX12_pen wnX12 wcX12_pen, wpX12_pen⟩
theorem wtL_wire : Cond.static yL_wire ∈ WA := wa_of 1186 (by decide +kernel) rfl
theorem wpL_wire : yL_wire.cls ≠ "java/lang/invoke/MethodHandle" ∧ yL_wire.cls ≠ "java/lang/invoke/VarHandle" ∧ (parseMethodDescriptor yL_wire.desc).map (fun d => d.parameters.length) = some 4 := by decide +kernel
theorem wcL_wire : Cond.codeWith yL_wire cL_wire 5 (some .int) hhL_wire ∈ WA := wa_of 1187 (by decide +kernel) rfl
theorem cwL_165 : CWH RL 165 yL_wire cL_wire 5 (some .int) hhL_wire 4 := ⟨goodSH (wa_of 1185 (by decide +kernel) rfl) wtL_wire wnL wcL_wire, wpL_wire⟩
theorem wcX12_wire : Cond.code yX12_wire cX12_wire 3 (some .int) ∈ WA := wa_of 1966 (by decide +kernel) rfl
theorem wiX12_wire : Cond.instanceMethod yX12_wire ∈ WA := wa_of 1964 (by decide +kernel) rfl
theorem wsX12_wire : Cond.selects yX12_wire.cls yX12_wire yX12_wire ∈ WA := wa_of 1965 (by decide +kernel) rfl
theorem wpX12_wire : yX12_wire.cls ≠ "java/lang/invoke/MethodHandle" ∧ yX12_wire.cls ≠ "java/lang/invoke/VarHandle" ∧ (parseMethodDescriptor yX12_wire.desc).map (fun d => d.parameters.length) = some 2 := by decide +kernel
theorem cwL_167 : CWV RL 167 yX12_wire cX12_wire 3 (some .int) 2 := ⟨goodV (wa_of 1963 (by decide +kernel) rfl) wiX12_wire wsX12_wire wnX12 wcX12_wire, wpX12_wire⟩
theorem wtL_record : Cond.static yL_record ∈ WA := wa_of 1193 (by decide +kernel) rfl
theorem wpL_record : yL_record.cls ≠ "java/lang/invoke/MethodHandle" ∧ yL_record.cls ≠ "java/lang/invoke/VarHandle" ∧ (parseMethodDescriptor yL_record.desc).map (fun d => d.parameters.length) = some 4 := by decide +kernel
theorem wcL_record : Cond.codeWith yL_record cL_record 5 (some .int) hhL_record ∈ WA := wa_of 1194 (by decide +kernel) rfl
theorem cwL_168 : CWH RL 168 yL_record cL_record 5 (some .int) hhL_record 4 := ⟨goodSH (wa_of 1192 (by decide +kernel) rfl) wtL_record wnL wcL_record, wpL_record⟩
theorem wcX12_record : Cond.code yX12_record cX12_record 3 (some .int) ∈ WA := wa_of 1970 (by decide +kernel) rfl
theorem wiX12_record : Cond.instanceMethod yX12_record ∈ WA := wa_of 1968 (by decide +kernel) rfl
theorem wsX12_record : Cond.selects yX12_record.cls yX12_record yX12_record ∈ WA := wa_of 1969 (by decide +kernel) rfl
theorem wpX12_record : yX12_record.cls ≠ "java/lang/invoke/MethodHandle" ∧ yX12_record.cls ≠ "java/lang/invoke/VarHandle" ∧ (parseMethodDescriptor yX12_record.desc).map (fun d => d.parameters.length) = some 2 := by decide +kernel
theorem cwL_170 : CWV RL 170 yX12_record cX12_record 3 (some .int) 2 := ⟨goodV (wa_of 1967 (by decide +kernel) rfl) wiX12_record wsX12_record wnX12 wcX12_record, wpX12_record⟩
theorem wtL_out : Cond.static yL_out ∈ WA := wa_of 1242 (by decide +kernel) rfl
theorem wpL_out : yL_out.cls ≠ "java/lang/invoke/MethodHandle" ∧ yL_out.cls ≠ "java/lang/invoke/VarHandle" ∧ (parseMethodDescriptor yL_out.desc).map (fun d => d.parameters.length) = some 4 := by decide +kernel
theorem wcL_out : Cond.codeWith yL_out cL_out 5 (some .int) hhL_out ∈ WA := wa_of 1243 (by decide +kernel) rfl
theorem cwL_171 : CWH RL 171 yL_out cL_out 5 (some .int) hhL_out 4 := ⟨goodSH (wa_of 1241 (by decide +kernel) rfl) wtL_out wnL wcL_out, wpL_out⟩
theorem wcX12_out : Cond.code yX12_out cX12_out 3 (some .int) ∈ WA := wa_of 1974 (by decide +kernel) rfl
theorem wiX12_out : Cond.instanceMethod yX12_out ∈ WA := wa_of 1972 (by decide +kernel) rfl
theorem wsX12_out : Cond.selects yX12_out.cls yX12_out yX12_out ∈ WA := wa_of 1973 (by decide +kernel) rfl
theorem wpX12_out : yX12_out.cls ≠ "java/lang/invoke/MethodHandle" ∧ yX12_out.cls ≠ "java/lang/invoke/VarHandle" ∧ (parseMethodDescriptor yX12_out.desc).map (fun d => d.parameters.length) = some 2 := by decide +kernel
theorem cwL_173 : CWV RL 173 yX12_out cX12_out 3 (some .int) 2 := ⟨goodV (wa_of 1971 (by decide +kernel) rfl) wiX12_out wsX12_out wnX12 wcX12_out, wpX12_out⟩
theorem wtL_level : Cond.static yL_level ∈ WA := wa_of 1270 (by decide +kernel) rfl
theorem wpL_level : yL_level.cls ≠ "java/lang/invoke/MethodHandle" ∧ yL_level.cls ≠ "java/lang/invoke/VarHandle" ∧ (parseMethodDescriptor yL_level.desc).map (fun d => d.parameters.length) = some 4 := by decide +kernel
theorem wcL_level : Cond.codeWith yL_level cL_level 5 (some .int) hhL_level ∈ WA := wa_of 1271 (by decide +kernel) rfl
theorem cwL_174 : CWH RL 174 yL_level cL_level 5 (some .int) hhL_level 4 := ⟨goodSH (wa_of 1269 (by decide +kernel) rfl) wtL_level wnL wcL_level, wpL_level⟩
theorem wcX12_level : Cond.code yX12_level cX12_level 3 (some .int) ∈ WA := wa_of 1978 (by decide +kernel) rfl
theorem wiX12_level : Cond.instanceMethod yX12_level ∈ WA := wa_of 1976 (by decide +kernel) rfl
theorem wsX12_level : Cond.selects yX12_level.cls yX12_level yX12_level ∈ WA := wa_of 1977 (by decide +kernel) rfl
theorem wpX12_level : yX12_level.cls ≠ "java/lang/invoke/MethodHandle" ∧ yX12_level.cls ≠ "java/lang/invoke/VarHandle" ∧ (parseMethodDescriptor yX12_level.desc).map (fun d => d.parameters.length) = some 2 := by decide +kernel
theorem cwL_176 : CWV RL 176 yX12_level cX12_level 3 (some .int) 2 := ⟨goodV (wa_of 1975 (by decide +kernel) rfl) wiX12_level wsX12_level wnX12 wcX12_level, wpX12_level⟩
theorem wtL_would : Cond.static yL_would ∈ WA := wa_of 1278 (by decide +kernel) rfl
theorem wpL_would : yL_would.cls ≠ "java/lang/invoke/MethodHandle" ∧ yL_would.cls ≠ "java/lang/invoke/VarHandle" ∧ (parseMethodDescriptor yL_would.desc).map (fun d => d.parameters.length) = some 10 := by decide +kernel
theorem wcL_would : Cond.codeWith yL_would cL_would 11 (some .int) hhL_would ∈ WA := wa_of 1279 (by decide +kernel) rfl
theorem cwL_177 : CWH RL 177 yL_would cL_would 11 (some .int) hhL_would 10 := ⟨goodSH (wa_of 1277 (by decide +kernel) rfl) wtL_would wnL wcL_would, wpL_would⟩
theorem wcX12_would : Cond.code yX12_would cX12_would 9 (some .int) ∈ WA := wa_of 1982 (by decide +kernel) rfl
theorem wiX12_would : Cond.instanceMethod yX12_would ∈ WA := wa_of 1980 (by decide +kernel) rfl
theorem wsX12_would : Cond.selects yX12_would.cls yX12_would yX12_would ∈ WA := wa_of 1981 (by decide +kernel) rfl
theorem wpX12_would : yX12_would.cls ≠ "java/lang/invoke/MethodHandle" ∧ yX12_would.cls ≠ "java/lang/invoke/VarHandle" ∧ (parseMethodDescriptor yX12_would.desc).map (fun d => d.parameters.length) = some 8 := by decide +kernel
theorem cwL_180 : CWV RL 180 yX12_would cX12_would 9 (some .int) 8 := ⟨goodV (wa_of 1979 (by decide +kernel) rfl) wiX12_would wsX12_would wnX12 wcX12_would, wpX12_would⟩
theorem wtL_total : Cond.static yL_total ∈ WA := wa_of 1287 (by decide +kernel) rfl
theorem wpL_total : yL_total.cls ≠ "java/lang/invoke/MethodHandle" ∧ yL_total.cls ≠ "java/lang/invoke/VarHandle" ∧ (parseMethodDescriptor yL_total.desc).map (fun d => d.parameters.length) = some 3 := by decide +kernel
theorem wcL_total : Cond.codeWith yL_total cL_total 4 (some .int) hhL_total ∈ WA := wa_of 1288 (by decide +kernel) rfl
theorem cwL_181 : CWH RL 181 yL_total cL_total 4 (some .int) hhL_total 3 := ⟨goodSH (wa_of 1286 (by decide +kernel) rfl) wtL_total wnL wcL_total, wpL_total⟩
theorem wcX12_total : Cond.code yX12_total cX12_total 5 (some .int) ∈ WA := wa_of 1986 (by decide +kernel) rfl
theorem wiX12_total : Cond.instanceMethod yX12_total ∈ WA := wa_of 1984 (by decide +kernel) rfl
theorem wsX12_total : Cond.selects yX12_total.cls yX12_total yX12_total ∈ WA := wa_of 1985 (by decide +kernel) rfl
theorem wpX12_total : yX12_total.cls ≠ "java/lang/invoke/MethodHandle" ∧ yX12_total.cls ≠ "java/lang/invoke/VarHandle" ∧ (parseMethodDescriptor yX12_total.desc).map (fun d => d.parameters.length) = some 1 := by decide +kernel
theorem cwL_183 : CWV RL 183 yX12_total cX12_total 5 (some .int) 1 := ⟨goodV (wa_of 1983 (by decide +kernel) rfl) wiX12_total wsX12_total wnX12 wcX12_total, wpX12_total⟩
theorem wtL_strange : Cond.static yL_strange ∈ WA := wa_of 1294 (by decide +kernel) rfl
theorem wpL_strange : yL_strange.cls ≠ "java/lang/invoke/MethodHandle" ∧ yL_strange.cls ≠ "java/lang/invoke/VarHandle" ∧ (parseMethodDescriptor yL_strange.desc).map (fun d => d.parameters.length) = some 4 := by decide +kernel
theorem wcL_strange : Cond.codeWith yL_strange cL_strange 5 (some .int) hhL_strange ∈ WA := wa_of 1295 (by decide +kernel) rfl
theorem cwL_184 : CWH RL 184 yL_strange cL_strange 5 (some .int) hhL_strange 4 := ⟨goodSH (wa_of 1293 (by decide +kernel) rfl) wtL_strange wnL wcL_strange, wpL_strange⟩
theorem wcX12_strange : Cond.code yX12_strange cX12_strange 5 (some .int) ∈ WA := wa_of 1991 (by decide +kernel) rfl
theorem wiX12_strange : Cond.instanceMethod yX12_strange ∈ WA := wa_of 1989 (by decide +kernel) rfl
theorem wsX12_strange : Cond.selects yX12_strange.cls yX12_strange yX12_strange ∈ WA := wa_of 1990 (by decide +kernel) rfl
theorem wpX12_strange : yX12_strange.cls ≠ "java/lang/invoke/MethodHandle" ∧ yX12_strange.cls ≠ "java/lang/invoke/VarHandle" ∧ (parseMethodDescriptor yX12_strange.desc).map (fun d => d.parameters.length) = some 2 := by decide +kernel
theorem cwL_186 : CWV RL 186 yX12_strange cX12_strange 5 (some .int) 2 := ⟨goodV (wa_of 1988 (by decide +kernel) rfl) wiX12_strange wsX12_strange wnX12 wcX12_strange, wpX12_strange⟩
theorem wtL_extreme : Cond.static yL_extreme ∈ WA := wa_of 1305 (by decide +kernel) rfl
theorem wpL_extreme : yL_extreme.cls ≠ "java/lang/invoke/MethodHandle" ∧ yL_extreme.cls ≠ "java/lang/invoke/VarHandle" ∧ (parseMethodDescriptor yL_extreme.desc).map (fun d => d.parameters.length) = some 4 := by decide +kernel
theorem wcL_extreme : Cond.codeWith yL_extreme cL_extreme 5 (some .int) hhL_extreme ∈ WA := wa_of 1306 (by decide +kernel) rfl
theorem cwL_187 : CWH RL 187 yL_extreme cL_extreme 5 (some .int) hhL_extreme 4 := ⟨goodSH (wa_of 1304 (by decide +kernel) rfl) wtL_extreme wnL wcL_extreme, wpL_extreme⟩
theorem wcX12_extreme : Cond.code yX12_extreme cX12_extreme 5 (some .int) ∈ WA := wa_of 2005 (by decide +kernel) rfl
theorem wiX12_extreme : Cond.instanceMethod yX12_extreme ∈ WA := wa_of 2003 (by decide +kernel) rfl
theorem wsX12_extreme : Cond.selects yX12_extreme.cls yX12_extreme yX12_extreme ∈ WA := wa_of 2004 (by decide +kernel) rfl
theorem wpX12_extreme : yX12_extreme.cls ≠ "java/lang/invoke/MethodHandle" ∧ yX12_extreme.cls ≠ "java/lang/invoke/VarHandle" ∧ (parseMethodDescriptor yX12_extreme.desc).map (fun d => d.parameters.length) = some 2 := by decide +kernel
theorem cwL_189 : CWV RL 189 yX12_extreme cX12_extreme 5 (some .int) 2 := ⟨goodV (wa_of 2002 (by decide +kernel) rfl) wiX12_extreme wsX12_extreme wnX12 wcX12_extreme, wpX12_extreme⟩
theorem wtL_through : Cond.static yL_through ∈ WA := wa_of 1320 (by decide +kernel) rfl
theorem wpL_through : yL_through.cls ≠ "java/lang/invoke/MethodHandle" ∧ yL_through.cls ≠ "java/lang/invoke/VarHandle" ∧ (parseMethodDescriptor yL_through.desc).map (fun d => d.parameters.length) = some 3 := by decide +kernel
theorem wcL_through : Cond.codeWith yL_through cL_through 4 (some .int) hhL_through ∈ WA := wa_of 1321 (by decide +kernel) rfl
theorem cwL_190 : CWH RL 190 yL_through cL_through 4 (some .int) hhL_through 3 := ⟨goodSH (wa_of 1319 (by decide +kernel) rfl) wtL_through wnL wcL_through, wpL_through⟩
theorem wcX12_through : Cond.code yX12_through cX12_through 2 (some .int) ∈ WA := wa_of 2017 (by decide +kernel) rfl
theorem wiX12_through : Cond.instanceMethod yX12_through ∈ WA := wa_of 2015 (by decide +kernel) rfl
theorem wsX12_through : Cond.selects yX12_through.cls yX12_through yX12_through ∈ WA := wa_of 2016 (by decide +kernel) rfl
theorem wpX12_through : yX12_through.cls ≠ "java/lang/invoke/MethodHandle" ∧ yX12_through.cls ≠ "java/lang/invoke/VarHandle" ∧ (parseMethodDescriptor yX12_through.desc).map (fun d => d.parameters.length) = some 1 := by decide +kernel
theorem cwL_192 : CWV RL 192 yX12_through cX12_through 2 (some .int) 1 := ⟨goodV (wa_of 2014 (by decide +kernel) rfl) wiX12_through wsX12_through wnX12 wcX12_through, wpX12_through⟩
theorem wtL_kept : Cond.static yL_kept ∈ WA := wa_of 1335 (by decide +kernel) rfl
theorem wpL_kept : yL_kept.cls ≠ "java/lang/invoke/MethodHandle" ∧ yL_kept.cls ≠ "java/lang/invoke/VarHandle" ∧ (parseMethodDescriptor yL_kept.desc).map (fun d => d.parameters.length) = some 4 := by decide +kernel
theorem wcL_kept : Cond.codeWith yL_kept cL_kept 5 (some .int) hhL_kept ∈ WA := wa_of 1336 (by decide +kernel) rfl
theorem cwL_193 : CWH RL 193 yL_kept cL_kept 5 (some .int) hhL_kept 4 := ⟨goodSH (wa_of 1334 (by decide +kernel) rfl) wtL_kept wnL wcL_kept, wpL_kept⟩
theorem wcX12_kept : Cond.code yX12_kept cX12_kept 5 (some .int) ∈ WA := wa_of 2029 (by decide +kernel) rfl
theorem wiX12_kept : Cond.instanceMethod yX12_kept ∈ WA := wa_of 2027 (by decide +kernel) rfl
theorem wsX12_kept : Cond.selects yX12_kept.cls yX12_kept yX12_kept ∈ WA := wa_of 2028 (by decide +kernel) rfl
theorem wpX12_kept : yX12_kept.cls ≠ "java/lang/invoke/MethodHandle" ∧ yX12_kept.cls ≠ "java/lang/invoke/VarHandle" ∧ (parseMethodDescriptor yX12_kept.desc).map (fun d => d.parameters.length) = some 2 := by decide +kernel
theorem cwL_195 : CWV RL 195 yX12_kept cX12_kept 5 (some .int) 2 := ⟨goodV (wa_of 2026 (by decide +kernel) rfl) wiX12_kept wsX12_kept wnX12 wcX12_kept, wpX12_kept⟩
theorem wtL_gives : Cond.static yL_gives ∈ WA := wa_of 1342 (by decide +kernel) rfl
theorem wpL_gives : yL_gives.cls ≠ "java/lang/invoke/MethodHandle" ∧ yL_gives.cls ≠ "java/lang/invoke/VarHandle" ∧ (parseMethodDescriptor yL_gives.desc).map (fun d => d.parameters.length) = some 5 := by decide +kernel
theorem wcL_gives : Cond.codeWith yL_gives cL_gives 6 (some .int) hhL_gives ∈ WA := wa_of 1343 (by decide +kernel) rfl
theorem cwL_196 : CWH RL 196 yL_gives cL_gives 6 (some .int) hhL_gives 5 := ⟨goodSH (wa_of 1341 (by decide +kernel) rfl) wtL_gives wnL wcL_gives, wpL_gives⟩
theorem wcX12_gives : Cond.code yX12_gives cX12_gives 5 (some .int) ∈ WA := wa_of 2033 (by decide +kernel) rfl
theorem wiX12_gives : Cond.instanceMethod yX12_gives ∈ WA := wa_of 2031 (by decide +kernel) rfl
theorem wsX12_gives : Cond.selects yX12_gives.cls yX12_gives yX12_gives ∈ WA := wa_of 2032 (by decide +kernel) rfl
theorem wpX12_gives : yX12_gives.cls ≠ "java/lang/invoke/MethodHandle" ∧ yX12_gives.cls ≠ "java/lang/invoke/VarHandle" ∧ (parseMethodDescriptor yX12_gives.desc).map (fun d => d.parameters.length) = some 3 := by decide +kernel
theorem cwL_199 : CWV RL 199 yX12_gives cX12_gives 5 (some .int) 3 := ⟨goodV (wa_of 2030 (by decide +kernel) rfl) wiX12_gives wsX12_gives wnX12 wcX12_gives, wpX12_gives⟩
theorem wtL_worst : Cond.static yL_worst ∈ WA := wa_of 1349 (by decide +kernel) rfl
theorem wpL_worst : yL_worst.cls ≠ "java/lang/invoke/MethodHandle" ∧ yL_worst.cls ≠ "java/lang/invoke/VarHandle" ∧ (parseMethodDescriptor yL_worst.desc).map (fun d => d.parameters.length) = some 5 := by decide +kernel
theorem wcL_worst : Cond.codeWith yL_worst cL_worst 6 (some .int) hhL_worst ∈ WA := wa_of 1350 (by decide +kernel) rfl
theorem cwL_200 : CWH RL 200 yL_worst cL_worst 6 (some .int) hhL_worst 5 := ⟨goodSH (wa_of 1348 (by decide +kernel) rfl) wtL_worst wnL wcL_worst, wpL_worst⟩
theorem wcX12_worst : Cond.code yX12_worst cX12_worst 8 (some .int) ∈ WA := wa_of 2037 (by decide +kernel) rfl
theorem wiX12_worst : Cond.instanceMethod yX12_worst ∈ WA := wa_of 2035 (by decide +kernel) rfl
theorem wsX12_worst : Cond.selects yX12_worst.cls yX12_worst yX12_worst ∈ WA := wa_of 2036 (by decide +kernel) rfl
theorem wpX12_worst : yX12_worst.cls ≠ "java/lang/invoke/MethodHandle" ∧ yX12_worst.cls ≠ "java/lang/invoke/VarHandle" ∧ (parseMethodDescriptor yX12_worst.desc).map (fun d => d.parameters.length) = some 3 := by decide +kernel
theorem cwL_202 : CWV RL 202 yX12_worst cX12_worst 8 (some .int) 3 := ⟨goodV (wa_of 2034 (by decide +kernel) rfl) wiX12_worst wsX12_worst wnX12 wcX12_worst, wpX12_worst⟩
theorem wtL_best : Cond.static yL_best ∈ WA := wa_of 1357 (by decide +kernel) rfl
theorem wpL_best : yL_best.cls ≠ "java/lang/invoke/MethodHandle" ∧ yL_best.cls ≠ "java/lang/invoke/VarHandle" ∧ (parseMethodDescriptor yL_best.desc).map (fun d => d.parameters.length) = some 6 := by decide +kernel
theorem wcL_best : Cond.codeWith yL_best cL_best 7 (some .int) hhL_best ∈ WA := wa_of 1358 (by decide +kernel) rfl
theorem cwL_203 : CWH RL 203 yL_best cL_best 7 (some .int) hhL_best 6 := ⟨goodSH (wa_of 1356 (by decide +kernel) rfl) wtL_best wnL wcL_best, wpL_best⟩
theorem wcX12_best : Cond.code yX12_best cX12_best 5 (some .int) ∈ WA := wa_of 2041 (by decide +kernel) rfl
theorem wiX12_best : Cond.instanceMethod yX12_best ∈ WA := wa_of 2039 (by decide +kernel) rfl
theorem wsX12_best : Cond.selects yX12_best.cls yX12_best yX12_best ∈ WA := wa_of 2040 (by decide +kernel) rfl
theorem wpX12_best : yX12_best.cls ≠ "java/lang/invoke/MethodHandle" ∧ yX12_best.cls ≠ "java/lang/invoke/VarHandle" ∧ (parseMethodDescriptor yX12_best.desc).map (fun d => d.parameters.length) = some 4 := by decide +kernel
theorem cwL_206 : CWV RL 206 yX12_best cX12_best 5 (some .int) 4 := ⟨goodV (wa_of 2038 (by decide +kernel) rfl) wiX12_best wsX12_best wnX12 wcX12_best, wpX12_best⟩
theorem wtL_hop : Cond.static yL_hop ∈ WA := wa_of 1384 (by decide +kernel) rfl
theorem wpL_hop : yL_hop.cls ≠ "java/lang/invoke/MethodHandle" ∧ yL_hop.cls ≠ "java/lang/invoke/VarHandle" ∧ (parseMethodDescriptor yL_hop.desc).map (fun d => d.parameters.length) = some 6 := by decide +kernel
theorem wcL_hop : Cond.codeWith yL_hop cL_hop 7 (some .int) hhL_hop ∈ WA := wa_of 1385 (by decide +kernel) rfl
theorem cwL_207 : CWH RL 207 yL_hop cL_hop 7 (some .int) hhL_hop 6 := ⟨goodSH (wa_of 1383 (by decide +kernel) rfl) wtL_hop wnL wcL_hop, wpL_hop⟩
theorem wcX12_hop : Cond.code yX12_hop cX12_hop 5 (some .int) ∈ WA := wa_of 2056 (by decide +kernel) rfl
theorem wiX12_hop : Cond.instanceMethod yX12_hop ∈ WA := wa_of 2054 (by decide +kernel) rfl
theorem wsX12_hop : Cond.selects yX12_hop.cls yX12_hop yX12_hop ∈ WA := wa_of 2055 (by decide +kernel) rfl
theorem wpX12_hop : yX12_hop.cls ≠ "java/lang/invoke/MethodHandle" ∧ yX12_hop.cls ≠ "java/lang/invoke/VarHandle" ∧ (parseMethodDescriptor yX12_hop.desc).map (fun d => d.parameters.length) = some 4 := by decide +kernel
theorem cwL_209 : CWV RL 209 yX12_hop cX12_hop 5 (some .int) 4 := ⟨goodV (wa_of 2053 (by decide +kernel) rfl) wiX12_hop wsX12_hop wnX12 wcX12_hop, wpX12_hop⟩
theorem wtL_tuning : Cond.static yL_tuning ∈ WA := wa_of 1391 (by decide +kernel) rfl
theorem wpL_tuning : yL_tuning.cls ≠ "java/lang/invoke/MethodHandle" ∧ yL_tuning.cls ≠ "java/lang/invoke/VarHandle" ∧ (parseMethodDescriptor yL_tuning.desc).map (fun d => d.parameters.length) = some 5 := by decide +kernel
theorem wcL_tuning : Cond.codeWith yL_tuning cL_tuning 6 (some .int) hhL_tuning ∈ WA := wa_of 1392 (by decide +kernel) rfl
theorem cwL_210 : CWH RL 210 yL_tuning cL_tuning 6 (some .int) hhL_tuning 5 := ⟨goodSH (wa_of 1390 (by decide +kernel) rfl) wtL_tuning wnL wcL_tuning, wpL_tuning⟩
theorem wcX12_tuning : Cond.code yX12_tuning cX12_tuning 6 (some .int) ∈ WA := wa_of 2060 (by decide +kernel) rfl
theorem wiX12_tuning : Cond.instanceMethod yX12_tuning ∈ WA := wa_of 2058 (by decide +kernel) rfl
theorem wsX12_tuning : Cond.selects yX12_tuning.cls yX12_tuning yX12_tuning ∈ WA := wa_of 2059 (by decide +kernel) rfl
theorem wpX12_tuning : yX12_tuning.cls ≠ "java/lang/invoke/MethodHandle" ∧ yX12_tuning.cls ≠ "java/lang/invoke/VarHandle" ∧ (parseMethodDescriptor yX12_tuning.desc).map (fun d => d.parameters.length) = some 3 := by decide +kernel
theorem cwL_212 : CWV RL 212 yX12_tuning cX12_tuning 6 (some .int) 3 := ⟨goodV (wa_of 2057 (by decide +kernel) rfl) wiX12_tuning wsX12_tuning wnX12 wcX12_tuning, wpX12_tuning⟩
theorem wtL_ring : Cond.static yL_ring ∈ WA := wa_of 1399 (by decide +kernel) rfl
theorem wpL_ring : yL_ring.cls ≠ "java/lang/invoke/MethodHandle" ∧ yL_ring.cls ≠ "java/lang/invoke/VarHandle" ∧ (parseMethodDescriptor yL_ring.desc).map (fun d => d.parameters.length) = some 5 := by decide +kernel
theorem wcL_ring : Cond.codeWith yL_ring cL_ring 6 (some .int) hhL_ring ∈ WA := wa_of 1400 (by decide +kernel) rfl
theorem cwL_213 : CWH RL 213 yL_ring cL_ring 6 (some .int) hhL_ring 5 := ⟨goodSH (wa_of 1398 (by decide +kernel) rfl) wtL_ring wnL wcL_ring, wpL_ring⟩
theorem wcX12_ring : Cond.code yX12_ring cX12_ring 6 (some .int) ∈ WA := wa_of 2064 (by decide +kernel) rfl
theorem wiX12_ring : Cond.instanceMethod yX12_ring ∈ WA := wa_of 2062 (by decide +kernel) rfl
theorem wsX12_ring : Cond.selects yX12_ring.cls yX12_ring yX12_ring ∈ WA := wa_of 2063 (by decide +kernel) rfl
theorem wpX12_ring : yX12_ring.cls ≠ "java/lang/invoke/MethodHandle" ∧ yX12_ring.cls ≠ "java/lang/invoke/VarHandle" ∧ (parseMethodDescriptor yX12_ring.desc).map (fun d => d.parameters.length) = some 3 := by decide +kernel
theorem cwL_215 : CWV RL 215 yX12_ring cX12_ring 6 (some .int) 3 := ⟨goodV (wa_of 2061 (by decide +kernel) rfl) wiX12_ring wsX12_ring wnX12 wcX12_ring, wpX12_ring⟩
theorem cwL_216 : CWV RL 216 yX11_fits cX11_fits 3 (some .int) 0 := ⟨goodV (wa_of 568 (by decide +kernel) rfl) wiX11_fits wsX11_fits wnX11 wcX11_fits, wpX11_fits⟩
theorem wcX12_fits : Cond.code yX12_fits cX12_fits 3 (some .int) ∈ WA := wa_of 2068 (by decide +kernel) rfl
theorem wiX12_fits : Cond.instanceMethod yX12_fits ∈ WA := wa_of 2066 (by decide +kernel) rfl
theorem wsX12_fits : Cond.selects yX12_fits.cls yX12_fits yX12_fits ∈ WA := wa_of 2067 (by decide +kernel) rfl
theorem wpX12_fits : yX12_fits.cls ≠ "java/lang/invoke/MethodHandle" ∧ yX12_fits.cls ≠ "java/lang/invoke/VarHandle" ∧ (parseMethodDescriptor yX12_fits.desc).map (fun d => d.parameters.length) = some 0 := by decide +kernel
theorem cwL_219 : CWV RL 219 yX12_fits cX12_fits 3 (some .int) 0 := ⟨goodV (wa_of 2065 (by decide +kernel) rfl) wiX12_fits wsX12_fits wnX12 wcX12_fits, wpX12_fits⟩
theorem wtL_look : Cond.static yL_look ∈ WA := wa_of 1418 (by decide +kernel) rfl
theorem wpL_look : yL_look.cls ≠ "java/lang/invoke/MethodHandle" ∧ yL_look.cls ≠ "java/lang/invoke/VarHandle" ∧ (parseMethodDescriptor yL_look.desc).map (fun d => d.parameters.length) = some 3 := by decide +kernel
theorem wcL_look : Cond.codeWith yL_look cL_look 4 (some .int) hhL_look ∈ WA := wa_of 1419 (by decide +kernel) rfl
theorem cwL_220 : CWH RL 220 yL_look cL_look 4 (some .int) hhL_look 3 := ⟨goodSH (wa_of 1417 (by decide +kernel) rfl) wtL_look wnL wcL_look, wpL_look⟩
theorem wcX12_look : Cond.code yX12_look cX12_look 6 (some .int) ∈ WA := wa_of 2076 (by decide +kernel) rfl
theorem wiX12_look : Cond.instanceMethod yX12_look ∈ WA := wa_of 2074 (by decide +kernel) rfl
theorem wsX12_look : Cond.selects yX12_look.cls yX12_look yX12_look ∈ WA := wa_of 2075 (by decide +kernel) rfl
theorem wpX12_look : yX12_look.cls ≠ "java/lang/invoke/MethodHandle" ∧ yX12_look.cls ≠ "java/lang/invoke/VarHandle" ∧ (parseMethodDescriptor yX12_look.desc).map (fun d => d.parameters.length) = some 1 := by decide +kernel
theorem cwL_222 : CWV RL 222 yX12_look cX12_look 6 (some .int) 1 := ⟨goodV (wa_of 2073 (by decide +kernel) rfl) wiX12_look wsX12_look wnX12 wcX12_look, wpX12_look⟩
theorem wcX11_ready : Cond.code yX11_ready cX11_ready 4 (some .int) ∈ WA := wa_of 608 (by decide +kernel) rfl
theorem wiX11_ready : Cond.instanceMethod yX11_ready ∈ WA := wa_of 606 (by decide +kernel) rfl
theorem wsX11_ready : Cond.selects yX11_ready.cls yX11_ready yX11_ready ∈ WA := wa_of 607 (by decide +kernel) rfl
theorem wpX11_ready : yX11_ready.cls ≠ "java/lang/invoke/MethodHandle" ∧ yX11_ready.cls ≠ "java/lang/invoke/VarHandle" ∧ (parseMethodDescriptor yX11_ready.desc).map (fun d => d.parameters.length) = some 1 := by decide +kernel
theorem cwL_223 : CWV RL 223 yX11_ready cX11_ready 4 (some .int) 1 := ⟨goodV (wa_of 605 (by decide +kernel) rfl) wiX11_ready wsX11_ready wnX11 wcX11_ready, wpX11_ready⟩
theorem wcX12_ready : Cond.code yX12_ready cX12_ready 4 (some .int) ∈ WA := wa_of 2088 (by decide +kernel) rfl
theorem wiX12_ready : Cond.instanceMethod yX12_ready ∈ WA := wa_of 2086 (by decide +kernel) rfl
theorem wsX12_ready : Cond.selects yX12_ready.cls yX12_ready yX12_ready ∈ WA := wa_of 2087 (by decide +kernel) rfl
theorem wpX12_ready : yX12_ready.cls ≠ "java/lang/invoke/MethodHandle" ∧ yX12_ready.cls ≠ "java/lang/invoke/VarHandle" ∧ (parseMethodDescriptor yX12_ready.desc).map (fun d => d.parameters.length) = some 1 := by decide +kernel
theorem cwL_226 : CWV RL 226 yX12_ready cX12_ready 4 (some .int) 1 := ⟨goodV (wa_of 2085 (by decide +kernel) rfl) wiX12_ready wsX12_ready wnX12 wcX12_ready, wpX12_ready⟩
theorem wtL_latest : Cond.static yL_latest ∈ WA := wa_of 1433 (by decide +kernel) rfl
theorem wpL_latest : yL_latest.cls ≠ "java/lang/invoke/MethodHandle" ∧ yL_latest.cls ≠ "java/lang/invoke/VarHandle" ∧ (parseMethodDescriptor yL_latest.desc).map (fun d => d.parameters.length) = some 3 := by decide +kernel
theorem wcL_latest : Cond.codeWith yL_latest cL_latest 4 (some .int) hhL_latest ∈ WA := wa_of 1434 (by decide +kernel) rfl
theorem cwL_227 : CWH RL 227 yL_latest cL_latest 4 (some .int) hhL_latest 3 := ⟨goodSH (wa_of 1432 (by decide +kernel) rfl) wtL_latest wnL wcL_latest, wpL_latest⟩
theorem wcX12_latest : Cond.code yX12_latest cX12_latest 2 (some .int) ∈ WA := wa_of 2092 (by decide +kernel) rfl
theorem wiX12_latest : Cond.instanceMethod yX12_latest ∈ WA := wa_of 2090 (by decide +kernel) rfl
theorem wsX12_latest : Cond.selects yX12_latest.cls yX12_latest yX12_latest ∈ WA := wa_of 2091 (by decide +kernel) rfl
theorem wpX12_latest : yX12_latest.cls ≠ "java/lang/invoke/MethodHandle" ∧ yX12_latest.cls ≠ "java/lang/invoke/VarHandle" ∧ (parseMethodDescriptor yX12_latest.desc).map (fun d => d.parameters.length) = some 1 := by decide +kernel
theorem cwL_229 : CWV RL 229 yX12_latest cX12_latest 2 (some .int) 1 := ⟨goodV (wa_of 2089 (by decide +kernel) rfl) wiX12_latest wsX12_latest wnX12 wcX12_latest, wpX12_latest⟩
theorem wtL_alike : Cond.static yL_alike ∈ WA := wa_of 1471 (by decide +kernel) rfl
theorem wpL_alike : yL_alike.cls ≠ "java/lang/invoke/MethodHandle" ∧ yL_alike.cls ≠ "java/lang/invoke/VarHandle" ∧ (parseMethodDescriptor yL_alike.desc).map (fun d => d.parameters.length) = some 4 := by decide +kernel
theorem wcL_alike : Cond.codeWith yL_alike cL_alike 5 (some .int) hhL_alike ∈ WA := wa_of 1472 (by decide +kernel) rfl
theorem cwL_230 : CWH RL 230 yL_alike cL_alike 5 (some .int) hhL_alike 4 := ⟨goodSH (wa_of 1470 (by decide +kernel) rfl) wtL_alike wnL wcL_alike, wpL_alike⟩
theorem wcX12_alike : Cond.code yX12_alike cX12_alike 5 (some .boolean) ∈ WA := wa_of 2096 (by decide +kernel) rfl
theorem wiX12_alike : Cond.instanceMethod yX12_alike ∈ WA := wa_of 2094 (by decide +kernel) rfl
theorem wsX12_alike : Cond.selects yX12_alike.cls yX12_alike yX12_alike ∈ WA := wa_of 2095 (by decide +kernel) rfl
theorem wpX12_alike : yX12_alike.cls ≠ "java/lang/invoke/MethodHandle" ∧ yX12_alike.cls ≠ "java/lang/invoke/VarHandle" ∧ (parseMethodDescriptor yX12_alike.desc).map (fun d => d.parameters.length) = some 2 := by decide +kernel
theorem cwL_232 : CWV RL 232 yX12_alike cX12_alike 5 (some .boolean) 2 := ⟨goodV (wa_of 2093 (by decide +kernel) rfl) wiX12_alike wsX12_alike wnX12 wcX12_alike, wpX12_alike⟩
theorem wtL_chained : Cond.static yL_chained ∈ WA := wa_of 1483 (by decide +kernel) rfl
theorem wpL_chained : yL_chained.cls ≠ "java/lang/invoke/MethodHandle" ∧ yL_chained.cls ≠ "java/lang/invoke/VarHandle" ∧ (parseMethodDescriptor yL_chained.desc).map (fun d => d.parameters.length) = some 3 := by decide +kernel
theorem wcL_chained : Cond.codeWith yL_chained cL_chained 4 (some .int) hhL_chained ∈ WA := wa_of 1484 (by decide +kernel) rfl
theorem cwL_233 : CWH RL 233 yL_chained cL_chained 4 (some .int) hhL_chained 3 := ⟨goodSH (wa_of 1482 (by decide +kernel) rfl) wtL_chained wnL wcL_chained, wpL_chained⟩
theorem wcX12_chained : Cond.code yX12_chained cX12_chained 4 (some .int) ∈ WA := wa_of 2100 (by decide +kernel) rfl
theorem wiX12_chained : Cond.instanceMethod yX12_chained ∈ WA := wa_of 2098 (by decide +kernel) rfl
theorem wsX12_chained : Cond.selects yX12_chained.cls yX12_chained yX12_chained ∈ WA := wa_of 2099 (by decide +kernel) rfl
theorem wpX12_chained : yX12_chained.cls ≠ "java/lang/invoke/MethodHandle" ∧ yX12_chained.cls ≠ "java/lang/invoke/VarHandle" ∧ (parseMethodDescriptor yX12_chained.desc).map (fun d => d.parameters.length) = some 1 := by decide +kernel
theorem cwL_235 : CWV RL 235 yX12_chained cX12_chained 4 (some .int) 1 := ⟨goodV (wa_of 2097 (by decide +kernel) rfl) wiX12_chained wsX12_chained wnX12 wcX12_chained, wpX12_chained⟩
theorem wtL_liar : Cond.static yL_liar ∈ WA := wa_of 1490 (by decide +kernel) rfl
theorem wpL_liar : yL_liar.cls ≠ "java/lang/invoke/MethodHandle" ∧ yL_liar.cls ≠ "java/lang/invoke/VarHandle" ∧ (parseMethodDescriptor yL_liar.desc).map (fun d => d.parameters.length) = some 4 := by decide +kernel
theorem wcL_liar : Cond.codeWith yL_liar cL_liar 5 (some .int) hhL_liar ∈ WA := wa_of 1491 (by decide +kernel) rfl
theorem cwL_236 : CWH RL 236 yL_liar cL_liar 5 (some .int) hhL_liar 4 := ⟨goodSH (wa_of 1489 (by decide +kernel) rfl) wtL_liar wnL wcL_liar, wpL_liar⟩
theorem wcX12_liar : Cond.code yX12_liar cX12_liar 7 (some .int) ∈ WA := wa_of 2104 (by decide +kernel) rfl
theorem wiX12_liar : Cond.instanceMethod yX12_liar ∈ WA := wa_of 2102 (by decide +kernel) rfl
theorem wsX12_liar : Cond.selects yX12_liar.cls yX12_liar yX12_liar ∈ WA := wa_of 2103 (by decide +kernel) rfl
theorem wpX12_liar : yX12_liar.cls ≠ "java/lang/invoke/MethodHandle" ∧ yX12_liar.cls ≠ "java/lang/invoke/VarHandle" ∧ (parseMethodDescriptor yX12_liar.desc).map (fun d => d.parameters.length) = some 2 := by decide +kernel
theorem cwL_238 : CWV RL 238 yX12_liar cX12_liar 7 (some .int) 2 := ⟨goodV (wa_of 2101 (by decide +kernel) rfl) wiX12_liar wsX12_liar wnX12 wcX12_liar, wpX12_liar⟩
theorem wtL_reach : Cond.static yL_reach ∈ WA := wa_of 1497 (by decide +kernel) rfl
theorem wpL_reach : yL_reach.cls ≠ "java/lang/invoke/MethodHandle" ∧ yL_reach.cls ≠ "java/lang/invoke/VarHandle" ∧ (parseMethodDescriptor yL_reach.desc).map (fun d => d.parameters.length) = some 3 := by decide +kernel
theorem wcL_reach : Cond.codeWith yL_reach cL_reach 4 (some .int) hhL_reach ∈ WA := wa_of 1498 (by decide +kernel) rfl
theorem cwL_239 : CWH RL 239 yL_reach cL_reach 4 (some .int) hhL_reach 3 := ⟨goodSH (wa_of 1496 (by decide +kernel) rfl) wtL_reach wnL wcL_reach, wpL_reach⟩
theorem wcX12_reach : Cond.code yX12_reach cX12_reach 5 (some .int) ∈ WA := wa_of 2108 (by decide +kernel) rfl
theorem wiX12_reach : Cond.instanceMethod yX12_reach ∈ WA := wa_of 2106 (by decide +kernel) rfl
theorem wsX12_reach : Cond.selects yX12_reach.cls yX12_reach yX12_reach ∈ WA := wa_of 2107 (by decide +kernel) rfl
theorem wpX12_reach : yX12_reach.cls ≠ "java/lang/invoke/MethodHandle" ∧ yX12_reach.cls ≠ "java/lang/invoke/VarHandle" ∧ (parseMethodDescriptor yX12_reach.desc).map (fun d => d.parameters.length) = some 1 := by decide +kernel
theorem cwL_241 : CWV RL 241 yX12_reach cX12_reach 5 (some .int) 1 := ⟨goodV (wa_of 2105 (by decide +kernel) rfl) wiX12_reach wsX12_reach wnX12 wcX12_reach, wpX12_reach⟩
theorem wcX11_room : Cond.code yX11_room cX11_room 3 (some .int) ∈ WA := wa_of 621 (by decide +kernel) rfl
theorem wiX11_room : Cond.instanceMethod yX11_room ∈ WA := wa_of 619 (by decide +kernel) rfl
theorem wsX11_room : Cond.selects yX11_room.cls yX11_room yX11_room ∈ WA := wa_of 620 (by decide +kernel) rfl
theorem wpX11_room : yX11_room.cls ≠ "java/lang/invoke/MethodHandle" ∧ yX11_room.cls ≠ "java/lang/invoke/VarHandle" ∧ (parseMethodDescriptor yX11_room.desc).map (fun d => d.parameters.length) = some 0 := by decide +kernel
theorem cwL_242 : CWV RL 242 yX11_room cX11_room 3 (some .int) 0 := ⟨goodV (wa_of 618 (by decide +kernel) rfl) wiX11_room wsX11_room wnX11 wcX11_room, wpX11_room⟩
theorem wcX12_room : Cond.code yX12_room cX12_room 3 (some .int) ∈ WA := wa_of 2112 (by decide +kernel) rfl
theorem wiX12_room : Cond.instanceMethod yX12_room ∈ WA := wa_of 2110 (by decide +kernel) rfl
theorem wsX12_room : Cond.selects yX12_room.cls yX12_room yX12_room ∈ WA := wa_of 2111 (by decide +kernel) rfl
theorem wpX12_room : yX12_room.cls ≠ "java/lang/invoke/MethodHandle" ∧ yX12_room.cls ≠ "java/lang/invoke/VarHandle" ∧ (parseMethodDescriptor yX12_room.desc).map (fun d => d.parameters.length) = some 0 := by decide +kernel
theorem cwL_245 : CWV RL 245 yX12_room cX12_room 3 (some .int) 0 := ⟨goodV (wa_of 2109 (by decide +kernel) rfl) wiX12_room wsX12_room wnX12 wcX12_room, wpX12_room⟩
theorem wtL_season : Cond.static yL_season ∈ WA := wa_of 1504 (by decide +kernel) rfl
theorem wpL_season : yL_season.cls ≠ "java/lang/invoke/MethodHandle" ∧ yL_season.cls ≠ "java/lang/invoke/VarHandle" ∧ (parseMethodDescriptor yL_season.desc).map (fun d => d.parameters.length) = some 6 := by decide +kernel
theorem wcL_season : Cond.codeWith yL_season cL_season 7 (some .int) hhL_season ∈ WA := wa_of 1505 (by decide +kernel) rfl
theorem cwL_246 : CWH RL 246 yL_season cL_season 7 (some .int) hhL_season 6 := ⟨goodSH (wa_of 1503 (by decide +kernel) rfl) wtL_season wnL wcL_season, wpL_season⟩
theorem wcX12_season : Cond.code yX12_season cX12_season 5 (some .int) ∈ WA := wa_of 2116 (by decide +kernel) rfl
theorem wiX12_season : Cond.instanceMethod yX12_season ∈ WA := wa_of 2114 (by decide +kernel) rfl
theorem wsX12_season : Cond.selects yX12_season.cls yX12_season yX12_season ∈ WA := wa_of 2115 (by decide +kernel) rfl
theorem wpX12_season : yX12_season.cls ≠ "java/lang/invoke/MethodHandle" ∧ yX12_season.cls ≠ "java/lang/invoke/VarHandle" ∧ (parseMethodDescriptor yX12_season.desc).map (fun d => d.parameters.length) = some 4 := by decide +kernel
theorem cwL_248 : CWV RL 248 yX12_season cX12_season 5 (some .int) 4 := ⟨goodV (wa_of 2113 (by decide +kernel) rfl) wiX12_season wsX12_season wnX12 wcX12_season, wpX12_season⟩
theorem wtL_span : Cond.static yL_span ∈ WA := wa_of 1528 (by decide +kernel) rfl
theorem wpL_span : yL_span.cls ≠ "java/lang/invoke/MethodHandle" ∧ yL_span.cls ≠ "java/lang/invoke/VarHandle" ∧ (parseMethodDescriptor yL_span.desc).map (fun d => d.parameters.length) = some 8 := by decide +kernel
theorem wcL_span : Cond.codeWith yL_span cL_span 9 (some .int) hhL_span ∈ WA := wa_of 1529 (by decide +kernel) rfl
theorem cwL_249 : CWH RL 249 yL_span cL_span 9 (some .int) hhL_span 8 := ⟨goodSH (wa_of 1527 (by decide +kernel) rfl) wtL_span wnL wcL_span, wpL_span⟩
theorem wcX12_span : Cond.code yX12_span cX12_span 12 (some .int) ∈ WA := wa_of 2132 (by decide +kernel) rfl
theorem wiX12_span : Cond.instanceMethod yX12_span ∈ WA := wa_of 2130 (by decide +kernel) rfl
theorem wsX12_span : Cond.selects yX12_span.cls yX12_span yX12_span ∈ WA := wa_of 2131 (by decide +kernel) rfl
theorem wpX12_span : yX12_span.cls ≠ "java/lang/invoke/MethodHandle" ∧ yX12_span.cls ≠ "java/lang/invoke/VarHandle" ∧ (parseMethodDescriptor yX12_span.desc).map (fun d => d.parameters.length) = some 6 := by decide +kernel
theorem cwL_252 : CWV RL 252 yX12_span cX12_span 12 (some .int) 6 := ⟨goodV (wa_of 2129 (by decide +kernel) rfl) wiX12_span wsX12_span wnX12 wcX12_span, wpX12_span⟩
theorem wcX11_image : Cond.code yX11_image cX11_image 1 (some .int) ∈ WA := wa_of 626 (by decide +kernel) rfl
theorem wiX11_image : Cond.instanceMethod yX11_image ∈ WA := wa_of 624 (by decide +kernel) rfl
theorem wsX11_image : Cond.selects yX11_image.cls yX11_image yX11_image ∈ WA := wa_of 625 (by decide +kernel) rfl
theorem wpX11_image : yX11_image.cls ≠ "java/lang/invoke/MethodHandle" ∧ yX11_image.cls ≠ "java/lang/invoke/VarHandle" ∧ (parseMethodDescriptor yX11_image.desc).map (fun d => d.parameters.length) = some 0 := by decide +kernel
theorem cwL_253 : CWV RL 253 yX11_image cX11_image 1 (some .int) 0 := ⟨goodV (wa_of 623 (by decide +kernel) rfl) wiX11_image wsX11_image wnX11 wcX11_image, wpX11_image⟩
theorem wcX12_image : Cond.code yX12_image cX12_image 1 (some .int) ∈ WA := wa_of 2136 (by decide +kernel) rfl
theorem wiX12_image : Cond.instanceMethod yX12_image ∈ WA := wa_of 2134 (by decide +kernel) rfl
theorem wsX12_image : Cond.selects yX12_image.cls yX12_image yX12_image ∈ WA := wa_of 2135 (by decide +kernel) rfl
theorem wpX12_image : yX12_image.cls ≠ "java/lang/invoke/MethodHandle" ∧ yX12_image.cls ≠ "java/lang/invoke/VarHandle" ∧ (parseMethodDescriptor yX12_image.desc).map (fun d => d.parameters.length) = some 0 := by decide +kernel
theorem cwL_256 : CWV RL 256 yX12_image cX12_image 1 (some .int) 0 := ⟨goodV (wa_of 2133 (by decide +kernel) rfl) wiX12_image wsX12_image wnX12 wcX12_image, wpX12_image⟩
theorem wcX11_restore : Cond.code yX11_restore cX11_restore 1 (some .int) ∈ WA := wa_of 634 (by decide +kernel) rfl
theorem wiX11_restore : Cond.instanceMethod yX11_restore ∈ WA := wa_of 632 (by decide +kernel) rfl
theorem wsX11_restore : Cond.selects yX11_restore.cls yX11_restore yX11_restore ∈ WA := wa_of 633 (by decide +kernel) rfl
theorem wpX11_restore : yX11_restore.cls ≠ "java/lang/invoke/MethodHandle" ∧ yX11_restore.cls ≠ "java/lang/invoke/VarHandle" ∧ (parseMethodDescriptor yX11_restore.desc).map (fun d => d.parameters.length) = some 0 := by decide +kernel
theorem cwL_257 : CWV RL 257 yX11_restore cX11_restore 1 (some .int) 0 := ⟨goodV (wa_of 631 (by decide +kernel) rfl) wiX11_restore wsX11_restore wnX11 wcX11_restore, wpX11_restore⟩
theorem wcX12_restore : Cond.code yX12_restore cX12_restore 1 (some .int) ∈ WA := wa_of 2148 (by decide +kernel) rfl
theorem wiX12_restore : Cond.instanceMethod yX12_restore ∈ WA := wa_of 2146 (by decide +kernel) rfl
theorem wsX12_restore : Cond.selects yX12_restore.cls yX12_restore yX12_restore ∈ WA := wa_of 2147 (by decide +kernel) rfl
theorem wpX12_restore : yX12_restore.cls ≠ "java/lang/invoke/MethodHandle" ∧ yX12_restore.cls ≠ "java/lang/invoke/VarHandle" ∧ (parseMethodDescriptor yX12_restore.desc).map (fun d => d.parameters.length) = some 0 := by decide +kernel
theorem cwL_260 : CWV RL 260 yX12_restore cX12_restore 1 (some .int) 0 := ⟨goodV (wa_of 2145 (by decide +kernel) rfl) wiX12_restore wsX12_restore wnX12 wcX12_restore, wpX12_restore⟩
theorem wcX11_status : Cond.code yX11_status cX11_status 2 (some .int) ∈ WA := wa_of 642 (by decide +kernel) rfl
theorem wiX11_status : Cond.instanceMethod yX11_status ∈ WA := wa_of 640 (by decide +kernel) rfl
theorem wsX11_status : Cond.selects yX11_status.cls yX11_status yX11_status ∈ WA := wa_of 641 (by decide +kernel) rfl
theorem wpX11_status : yX11_status.cls ≠ "java/lang/invoke/MethodHandle" ∧ yX11_status.cls ≠ "java/lang/invoke/VarHandle" ∧ (parseMethodDescriptor yX11_status.desc).map (fun d => d.parameters.length) = some 1 := by decide +kernel
theorem cwL_261 : CWV RL 261 yX11_status cX11_status 2 (some .int) 1 := ⟨goodV (wa_of 639 (by decide +kernel) rfl) wiX11_status wsX11_status wnX11 wcX11_status, wpX11_status⟩
theorem wcX12_status : Cond.code yX12_status cX12_status 2 (some .int) ∈ WA := wa_of 2152 (by decide +kernel) rfl
theorem wiX12_status : Cond.instanceMethod yX12_status ∈ WA := wa_of 2150 (by decide +kernel) rfl
theorem wsX12_status : Cond.selects yX12_status.cls yX12_status yX12_status ∈ WA := wa_of 2151 (by decide +kernel) rfl
theorem wpX12_status : yX12_status.cls ≠ "java/lang/invoke/MethodHandle" ∧ yX12_status.cls ≠ "java/lang/invoke/VarHandle" ∧ (parseMethodDescriptor yX12_status.desc).map (fun d => d.parameters.length) = some 1 := by decide +kernel
theorem cwL_264 : CWV RL 264 yX12_status cX12_status 2 (some .int) 1 := ⟨goodV (wa_of 2149 (by decide +kernel) rfl) wiX12_status wsX12_status wnX12 wcX12_status, wpX12_status⟩
theorem wcX11_count : Cond.code yX11_count cX11_count 2 (some .int) ∈ WA := wa_of 646 (by decide +kernel) rfl
theorem wiX11_count : Cond.instanceMethod yX11_count ∈ WA := wa_of 644 (by decide +kernel) rfl
theorem wsX11_count : Cond.selects yX11_count.cls yX11_count yX11_count ∈ WA := wa_of 645 (by decide +kernel) rfl
theorem wpX11_count : yX11_count.cls ≠ "java/lang/invoke/MethodHandle" ∧ yX11_count.cls ≠ "java/lang/invoke/VarHandle" ∧ (parseMethodDescriptor yX11_count.desc).map (fun d => d.parameters.length) = some 1 := by decide +kernel
theorem cwL_265 : CWV RL 265 yX11_count cX11_count 2 (some .int) 1 := ⟨goodV (wa_of 643 (by decide +kernel) rfl) wiX11_count wsX11_count wnX11 wcX11_count, wpX11_count⟩
theorem wcX12_count : Cond.code yX12_count cX12_count 2 (some .int) ∈ WA := wa_of 2156 (by decide +kernel) rfl
theorem wiX12_count : Cond.instanceMethod yX12_count ∈ WA := wa_of 2154 (by decide +kernel) rfl
theorem wsX12_count : Cond.selects yX12_count.cls yX12_count yX12_count ∈ WA := wa_of 2155 (by decide +kernel) rfl
theorem wpX12_count : yX12_count.cls ≠ "java/lang/invoke/MethodHandle" ∧ yX12_count.cls ≠ "java/lang/invoke/VarHandle" ∧ (parseMethodDescriptor yX12_count.desc).map (fun d => d.parameters.length) = some 1 := by decide +kernel
theorem cwL_268 : CWV RL 268 yX12_count cX12_count 2 (some .int) 1 := ⟨goodV (wa_of 2153 (by decide +kernel) rfl) wiX12_count wsX12_count wnX12 wcX12_count, wpX12_count⟩
theorem ckX11 : CK 11 RX11 18 := ⟨TX11, tyX11, rfl, by decide, wsinX11, tyX11_ok, by decide, by decide⟩
theorem ckX12 : CK 12 RX12 47 := ⟨TX12, tyX12, rfl, by decide, wsinX12, tyX12_ok, by decide, by decide⟩
theorem clL_120 : Cond.classLink RL 120 "UnlikePensModel" ∈ WA := wa_of 1534 (by decide +kernel) rfl
theorem clL_8 : Cond.classLink RL 8 "UnlikePens" ∈ WA := wa_of 131 (by decide +kernel) rfl
theorem insX11 : Cond.instantiable RX11 18 ∈ WA := wa_of 132 (by decide +kernel) rfl
theorem insX12 : Cond.instantiable RX12 47 ∈ WA := wa_of 1535 (by decide +kernel) rfl
