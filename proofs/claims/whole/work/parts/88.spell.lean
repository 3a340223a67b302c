/-! ===== the reader's words ===== -/
section SPL
variable {F : ip_F} {G : ip_G} {Q : Option Value → ip_M → Prop}
set_option maxRecDepth 20000 in
theorem sp237_0 (h : Q (some (.int (Int32.ofNat 5))) (hs 62, F, G)) : wp 237 0 [.ref 1000001] [] (hs 62, F, G) Q := ⟨20, (some (.int 5), (hs 62, F, G)), rfl, h⟩
set_option maxRecDepth 20000 in
theorem sp238_00 (h : Q (some (.int (Int32.ofNat 116))) (hs 62, F, G)) : wp 238 0 [.ref 1000001, .int (Int32.ofNat 0)] [] (hs 62, F, G) Q := ⟨60, (some (.int 116), (hs 62, F, G)), rfl, h⟩
set_option maxRecDepth 20000 in
theorem sp238_01 (h : Q (some (.int (Int32.ofNat 111))) (hs 62, F, G)) : wp 238 0 [.ref 1000001, .int (Int32.ofNat 1)] [] (hs 62, F, G) Q := ⟨60, (some (.int 111), (hs 62, F, G)), rfl, h⟩
set_option maxRecDepth 20000 in
theorem sp238_02 (h : Q (some (.int (Int32.ofNat 119))) (hs 62, F, G)) : wp 238 0 [.ref 1000001, .int (Int32.ofNat 2)] [] (hs 62, F, G) Q := ⟨60, (some (.int 119), (hs 62, F, G)), rfl, h⟩
set_option maxRecDepth 20000 in
theorem sp238_03 (h : Q (some (.int (Int32.ofNat 101))) (hs 62, F, G)) : wp 238 0 [.ref 1000001, .int (Int32.ofNat 3)] [] (hs 62, F, G) Q := ⟨60, (some (.int 101), (hs 62, F, G)), rfl, h⟩
set_option maxRecDepth 20000 in
theorem sp238_04 (h : Q (some (.int (Int32.ofNat 114))) (hs 62, F, G)) : wp 238 0 [.ref 1000001, .int (Int32.ofNat 4)] [] (hs 62, F, G) Q := ⟨60, (some (.int 114), (hs 62, F, G)), rfl, h⟩
set_option maxRecDepth 20000 in
theorem sp237_1 (h : Q (some (.int (Int32.ofNat 6))) (hs 62, F, G)) : wp 237 0 [.ref 1000002] [] (hs 62, F, G) Q := ⟨20, (some (.int 6), (hs 62, F, G)), rfl, h⟩
set_option maxRecDepth 20000 in
theorem sp238_10 (h : Q (some (.int (Int32.ofNat 109))) (hs 62, F, G)) : wp 238 0 [.ref 1000002, .int (Int32.ofNat 0)] [] (hs 62, F, G) Q := ⟨60, (some (.int 109), (hs 62, F, G)), rfl, h⟩
set_option maxRecDepth 20000 in
theorem sp238_11 (h : Q (some (.int (Int32.ofNat 101))) (hs 62, F, G)) : wp 238 0 [.ref 1000002, .int (Int32.ofNat 1)] [] (hs 62, F, G) Q := ⟨60, (some (.int 101), (hs 62, F, G)), rfl, h⟩
set_option maxRecDepth 20000 in
theorem sp238_12 (h : Q (some (.int (Int32.ofNat 116))) (hs 62, F, G)) : wp 238 0 [.ref 1000002, .int (Int32.ofNat 2)] [] (hs 62, F, G) Q := ⟨60, (some (.int 116), (hs 62, F, G)), rfl, h⟩
set_option maxRecDepth 20000 in
theorem sp238_13 (h : Q (some (.int (Int32.ofNat 104))) (hs 62, F, G)) : wp 238 0 [.ref 1000002, .int (Int32.ofNat 3)] [] (hs 62, F, G) Q := ⟨60, (some (.int 104), (hs 62, F, G)), rfl, h⟩
set_option maxRecDepth 20000 in
theorem sp238_14 (h : Q (some (.int (Int32.ofNat 111))) (hs 62, F, G)) : wp 238 0 [.ref 1000002, .int (Int32.ofNat 4)] [] (hs 62, F, G) Q := ⟨60, (some (.int 111), (hs 62, F, G)), rfl, h⟩
set_option maxRecDepth 20000 in
theorem sp238_15 (h : Q (some (.int (Int32.ofNat 100))) (hs 62, F, G)) : wp 238 0 [.ref 1000002, .int (Int32.ofNat 5)] [] (hs 62, F, G) Q := ⟨60, (some (.int 100), (hs 62, F, G)), rfl, h⟩
set_option maxRecDepth 20000 in
theorem sp237_2 (h : Q (some (.int (Int32.ofNat 4))) (hs 62, F, G)) : wp 237 0 [.ref 1000003] [] (hs 62, F, G) Q := ⟨20, (some (.int 4), (hs 62, F, G)), rfl, h⟩
set_option maxRecDepth 20000 in
theorem sp238_20 (h : Q (some (.int (Int32.ofNat 115))) (hs 62, F, G)) : wp 238 0 [.ref 1000003, .int (Int32.ofNat 0)] [] (hs 62, F, G) Q := ⟨60, (some (.int 115), (hs 62, F, G)), rfl, h⟩
set_option maxRecDepth 20000 in
theorem sp238_21 (h : Q (some (.int (Int32.ofNat 108))) (hs 62, F, G)) : wp 238 0 [.ref 1000003, .int (Int32.ofNat 1)] [] (hs 62, F, G) Q := ⟨60, (some (.int 108), (hs 62, F, G)), rfl, h⟩
set_option maxRecDepth 20000 in
theorem sp238_22 (h : Q (some (.int (Int32.ofNat 105))) (hs 62, F, G)) : wp 238 0 [.ref 1000003, .int (Int32.ofNat 2)] [] (hs 62, F, G) Q := ⟨60, (some (.int 105), (hs 62, F, G)), rfl, h⟩
set_option maxRecDepth 20000 in
theorem sp238_23 (h : Q (some (.int (Int32.ofNat 112))) (hs 62, F, G)) : wp 238 0 [.ref 1000003, .int (Int32.ofNat 3)] [] (hs 62, F, G) Q := ⟨60, (some (.int 112), (hs 62, F, G)), rfl, h⟩
set_option maxRecDepth 20000 in
theorem sp237_3 (h : Q (some (.int (Int32.ofNat 6))) (hs 62, F, G)) : wp 237 0 [.ref 1000004] [] (hs 62, F, G) Q := ⟨20, (some (.int 6), (hs 62, F, G)), rfl, h⟩
set_option maxRecDepth 20000 in
theorem sp238_30 (h : Q (some (.int (Int32.ofNat 114))) (hs 62, F, G)) : wp 238 0 [.ref 1000004, .int (Int32.ofNat 0)] [] (hs 62, F, G) Q := ⟨60, (some (.int 114), (hs 62, F, G)), rfl, h⟩
set_option maxRecDepth 20000 in
theorem sp238_31 (h : Q (some (.int (Int32.ofNat 105))) (hs 62, F, G)) : wp 238 0 [.ref 1000004, .int (Int32.ofNat 1)] [] (hs 62, F, G) Q := ⟨60, (some (.int 105), (hs 62, F, G)), rfl, h⟩
set_option maxRecDepth 20000 in
theorem sp238_32 (h : Q (some (.int (Int32.ofNat 110))) (hs 62, F, G)) : wp 238 0 [.ref 1000004, .int (Int32.ofNat 2)] [] (hs 62, F, G) Q := ⟨60, (some (.int 110), (hs 62, F, G)), rfl, h⟩
set_option maxRecDepth 20000 in
theorem sp238_33 (h : Q (some (.int (Int32.ofNat 103))) (hs 62, F, G)) : wp 238 0 [.ref 1000004, .int (Int32.ofNat 3)] [] (hs 62, F, G) Q := ⟨60, (some (.int 103), (hs 62, F, G)), rfl, h⟩
set_option maxRecDepth 20000 in
theorem sp238_34 (h : Q (some (.int (Int32.ofNat 101))) (hs 62, F, G)) : wp 238 0 [.ref 1000004, .int (Int32.ofNat 4)] [] (hs 62, F, G) Q := ⟨60, (some (.int 101), (hs 62, F, G)), rfl, h⟩
set_option maxRecDepth 20000 in
theorem sp238_35 (h : Q (some (.int (Int32.ofNat 114))) (hs 62, F, G)) : wp 238 0 [.ref 1000004, .int (Int32.ofNat 5)] [] (hs 62, F, G) Q := ⟨60, (some (.int 114), (hs 62, F, G)), rfl, h⟩
set_option maxRecDepth 20000 in
theorem sp237_4 (h : Q (some (.int (Int32.ofNat 5))) (hs 62, F, G)) : wp 237 0 [.ref 1000005] [] (hs 62, F, G) Q := ⟨20, (some (.int 5), (hs 62, F, G)), rfl, h⟩
set_option maxRecDepth 20000 in
theorem sp238_40 (h : Q (some (.int (Int32.ofNat 121))) (hs 62, F, G)) : wp 238 0 [.ref 1000005, .int (Int32.ofNat 0)] [] (hs 62, F, G) Q := ⟨60, (some (.int 121), (hs 62, F, G)), rfl, h⟩
set_option maxRecDepth 20000 in
theorem sp238_41 (h : Q (some (.int (Int32.ofNat 101))) (hs 62, F, G)) : wp 238 0 [.ref 1000005, .int (Int32.ofNat 1)] [] (hs 62, F, G) Q := ⟨60, (some (.int 101), (hs 62, F, G)), rfl, h⟩
set_option maxRecDepth 20000 in
theorem sp238_42 (h : Q (some (.int (Int32.ofNat 97))) (hs 62, F, G)) : wp 238 0 [.ref 1000005, .int (Int32.ofNat 2)] [] (hs 62, F, G) Q := ⟨60, (some (.int 97), (hs 62, F, G)), rfl, h⟩
set_option maxRecDepth 20000 in
theorem sp238_43 (h : Q (some (.int (Int32.ofNat 114))) (hs 62, F, G)) : wp 238 0 [.ref 1000005, .int (Int32.ofNat 3)] [] (hs 62, F, G) Q := ⟨60, (some (.int 114), (hs 62, F, G)), rfl, h⟩
set_option maxRecDepth 20000 in
theorem sp238_44 (h : Q (some (.int (Int32.ofNat 115))) (hs 62, F, G)) : wp 238 0 [.ref 1000005, .int (Int32.ofNat 4)] [] (hs 62, F, G) Q := ⟨60, (some (.int 115), (hs 62, F, G)), rfl, h⟩
end SPL
