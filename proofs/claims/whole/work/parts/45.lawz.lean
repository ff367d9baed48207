/-! the code of the law, joined (by program: wip/whole/gen/code.py) -/
def t_Law_law : tb4 := t_Law_law_0 ++ t_Law_law_1 ++ t_Law_law_2 ++ t_Law_law_3 ++ t_Law_law_4 ++ t_Law_law_5 ++ t_Law_law_6 ++ t_Law_law_7 ++ t_Law_law_8 ++ t_Law_law_9 ++ t_Law_law_10 ++ t_Law_law_11
theorem o_Law_law : tOk k_Law_law t_Law_law = true := by
  have h0 := o_Law_law_0
  have h1 := o_Law_law_1
  have h2 := o_Law_law_2
  have h3 := o_Law_law_3
  have h4 := o_Law_law_4
  have h5 := o_Law_law_5
  have h6 := o_Law_law_6
  have h7 := o_Law_law_7
  have h8 := o_Law_law_8
  have h9 := o_Law_law_9
  have h10 := o_Law_law_10
  have h11 := o_Law_law_11
  unfold tOk at *
  simp only [t_Law_law, List.all_append, h0, h1, h2, h3, h4, h5, h6, h7, h8, h9, h10, h11, Bool.and_self]
theorem e_Law_law_0 {F : List rw4 → Prop} {G : Prop} : lkp F G t_Law_law 0 = G := propext Iff.rfl
theorem e_Law_law_8 {F : List rw4 → Prop} {G : Prop} : lkp F G t_Law_law 8 = G := propext Iff.rfl
theorem e_Law_law_23 {F : List rw4 → Prop} {G : Prop} : lkp F G t_Law_law 23 = F [(.iload 4, 2, 0, 0), (.aload_n 0, 1, 0, 0), (.arraylength, 1, 0, 0), (.iconst 4, 1, 0, 0), (.isub, 1, 0, 0), (.if_icmp .gt 927, 3, 956, 0)] := propext Iff.rfl
theorem e_Law_law_32 {F : List rw4 → Prop} {G : Prop} : lkp F G t_Law_law 32 = F [(.aload_n 0, 1, 0, 0), (.iload 4, 2, 0, 0), (.iaload, 1, 0, 0), (.bipush 31, 2, 0, 0), (.iand, 1, 1, 5), (.tableswitch 911 0 19 #[93, 104, 115, 183, 243, 279, 335, 372, 385, 422, 447, 491, 547, 610, 654, 698, 754, 798, 811, 867], 93, 0, 0)] := propext Iff.rfl
theorem e_Law_law_132 {F : List rw4 → Prop} {G : Prop} : lkp F G t_Law_law 132 = F [(.aload_n 1, 1, 0, 0), (.invokevirtual 66, 3, 7, 0), (.aload_n 2, 1, 0, 0), (.invokevirtual 69, 3, 90, 0), (.goto 810, 3, 950, 0)] := propext Iff.rfl
theorem e_Law_law_143 {F : List rw4 → Prop} {G : Prop} : lkp F G t_Law_law 143 = F [(.aload_n 1, 1, 0, 0), (.invokevirtual 70, 3, 8, 0), (.aload_n 2, 1, 0, 0), (.invokevirtual 73, 3, 91, 0), (.goto 799, 3, 950, 0)] := propext Iff.rfl
theorem e_Law_law_154 {F : List rw4 → Prop} {G : Prop} : lkp F G t_Law_law 154 = F [(.aload_n 1, 1, 0, 0), (.aload_n 0, 1, 0, 0), (.iload 4, 2, 0, 0), (.iconst 1, 1, 0, 0), (.iadd, 1, 0, 0), (.iaload, 1, 0, 0), (.aload_n 0, 1, 0, 0), (.iload 4, 2, 0, 0), (.iconst 2, 1, 0, 0), (.iadd, 1, 0, 0), (.iaload, 1, 0, 0), (.aload_n 3, 1, 0, 0)] := propext Iff.rfl
theorem e_Law_law_168 {F : List rw4 → Prop} {G : Prop} : lkp F G t_Law_law 168 = G := propext Iff.rfl
theorem e_Law_law_171 {F : List rw4 → Prop} {G : Prop} : lkp F G t_Law_law 171 = F [(.istore 5, 2, 0, 0), (.aload_n 2, 1, 0, 0), (.aload_n 0, 1, 0, 0), (.iload 4, 2, 0, 0), (.iconst 1, 1, 0, 0), (.iadd, 1, 0, 0), (.iaload, 1, 0, 0), (.aload_n 0, 1, 0, 0), (.iload 4, 2, 0, 0), (.iconst 2, 1, 0, 0), (.iadd, 1, 0, 0), (.iaload, 1, 0, 0), (.invokevirtual 79, 3, 94, 2), (.istore 6, 2, 0, 0), (.aload_n 2, 1, 0, 0), (.invokevirtual 80, 3, 64, 0), (.iload 5, 2, 0, 0), (.if_icmp .eq 5, 3, 202, 0)] := propext Iff.rfl
theorem e_Law_law_200 {F : List rw4 → Prop} {G : Prop} : lkp F G t_Law_law 200 = F [(.iconst 0, 1, 0, 0), (.ireturn, 1, 1, 0)] := propext Iff.rfl
theorem e_Law_law_202 {F : List rw4 → Prop} {G : Prop} : lkp F G t_Law_law 202 = F [(.iload 5, 2, 0, 0), (.ifCond .ne 15, 3, 219, 0)] := propext Iff.rfl
theorem e_Law_law_207 {F : List rw4 → Prop} {G : Prop} : lkp F G t_Law_law 207 = F [(.aload_n 3, 1, 0, 0), (.iconst 0, 1, 0, 0), (.laload, 1, 0, 0), (.iload 6, 2, 0, 0), (.i2l, 1, 0, 0), (.lcmp, 1, 0, 0), (.ifCond .eq 5, 3, 219, 0)] := propext Iff.rfl
theorem e_Law_law_217 {F : List rw4 → Prop} {G : Prop} : lkp F G t_Law_law 217 = F [(.iconst 0, 1, 0, 0), (.ireturn, 1, 1, 0)] := propext Iff.rfl
theorem e_Law_law_219 {F : List rw4 → Prop} {G : Prop} : lkp F G t_Law_law 219 = F [(.goto 731, 3, 950, 0)] := propext Iff.rfl
theorem e_Law_law_222 {F : List rw4 → Prop} {G : Prop} : lkp F G t_Law_law 222 = F [(.aload_n 1, 1, 0, 0), (.aload_n 0, 1, 0, 0), (.iload 4, 2, 0, 0), (.iconst 1, 1, 0, 0), (.iadd, 1, 0, 0), (.iaload, 1, 0, 0), (.aload_n 0, 1, 0, 0), (.iload 4, 2, 0, 0), (.iconst 2, 1, 0, 0), (.iadd, 1, 0, 0), (.iaload, 1, 0, 0), (.aload_n 0, 1, 0, 0), (.iload 4, 2, 0, 0), (.iconst 3, 1, 0, 0), (.iadd, 1, 0, 0), (.iaload, 1, 0, 0)] := propext Iff.rfl
theorem e_Law_law_241 {F : List rw4 → Prop} {G : Prop} : lkp F G t_Law_law 241 = G := propext Iff.rfl
theorem e_Law_law_244 {F : List rw4 → Prop} {G : Prop} : lkp F G t_Law_law 244 = F [(.istore 5, 2, 0, 0), (.aload_n 2, 1, 0, 0), (.aload_n 0, 1, 0, 0), (.iload 4, 2, 0, 0), (.iconst 1, 1, 0, 0), (.iadd, 1, 0, 0), (.iaload, 1, 0, 0), (.aload_n 0, 1, 0, 0), (.iload 4, 2, 0, 0), (.iconst 2, 1, 0, 0), (.iadd, 1, 0, 0), (.iaload, 1, 0, 0), (.aload_n 0, 1, 0, 0), (.iload 4, 2, 0, 0), (.iconst 3, 1, 0, 0), (.iadd, 1, 0, 0), (.iaload, 1, 0, 0), (.invokevirtual 86, 3, 96, 3), (.aload_n 2, 1, 0, 0), (.invokevirtual 80, 3, 64, 0), (.iload 5, 2, 0, 0), (.if_icmp .eq 5, 3, 279, 0)] := propext Iff.rfl
theorem e_Law_law_277 {F : List rw4 → Prop} {G : Prop} : lkp F G t_Law_law 277 = F [(.iconst 0, 1, 0, 0), (.ireturn, 1, 1, 0)] := propext Iff.rfl
theorem e_Law_law_279 {F : List rw4 → Prop} {G : Prop} : lkp F G t_Law_law 279 = F [(.goto 671, 3, 950, 0)] := propext Iff.rfl
theorem e_Law_law_282 {F : List rw4 → Prop} {G : Prop} : lkp F G t_Law_law 282 = F [(.aload_n 1, 1, 0, 0), (.aload_n 0, 1, 0, 0), (.iload 4, 2, 0, 0), (.iconst 1, 1, 0, 0), (.iadd, 1, 0, 0), (.iaload, 1, 0, 0)] := propext Iff.rfl
theorem e_Law_law_289 {F : List rw4 → Prop} {G : Prop} : lkp F G t_Law_law 289 = G := propext Iff.rfl
theorem e_Law_law_292 {F : List rw4 → Prop} {G : Prop} : lkp F G t_Law_law 292 = F [(.istore 5, 2, 0, 0), (.aload_n 2, 1, 0, 0), (.aload_n 0, 1, 0, 0), (.iload 4, 2, 0, 0), (.iconst 1, 1, 0, 0), (.iadd, 1, 0, 0), (.iaload, 1, 0, 0), (.invokevirtual 90, 3, 98, 1), (.aload_n 2, 1, 0, 0), (.invokevirtual 80, 3, 64, 0), (.iload 5, 2, 0, 0), (.if_icmp .eq 5, 3, 315, 0)] := propext Iff.rfl
theorem e_Law_law_313 {F : List rw4 → Prop} {G : Prop} : lkp F G t_Law_law 313 = F [(.iconst 0, 1, 0, 0), (.ireturn, 1, 1, 0)] := propext Iff.rfl
theorem e_Law_law_315 {F : List rw4 → Prop} {G : Prop} : lkp F G t_Law_law 315 = F [(.goto 635, 3, 950, 0)] := propext Iff.rfl
theorem e_Law_law_318 {F : List rw4 → Prop} {G : Prop} : lkp F G t_Law_law 318 = F [(.aload_n 1, 1, 0, 0), (.aload_n 0, 1, 0, 0), (.iload 4, 2, 0, 0), (.iconst 1, 1, 0, 0), (.iadd, 1, 0, 0), (.iaload, 1, 0, 0), (.aload_n 3, 1, 0, 0)] := propext Iff.rfl
theorem e_Law_law_326 {F : List rw4 → Prop} {G : Prop} : lkp F G t_Law_law 326 = G := propext Iff.rfl
theorem e_Law_law_329 {F : List rw4 → Prop} {G : Prop} : lkp F G t_Law_law 329 = F [(.istore 5, 2, 0, 0), (.aload_n 2, 1, 0, 0), (.aload_n 0, 1, 0, 0), (.iload 4, 2, 0, 0), (.iconst 1, 1, 0, 0), (.iadd, 1, 0, 0), (.iaload, 1, 0, 0), (.invokevirtual 94, 3, 99, 1), (.istore 6, 2, 0, 0), (.aload_n 2, 1, 0, 0), (.invokevirtual 80, 3, 64, 0), (.iload 5, 2, 0, 0), (.if_icmp .eq 5, 3, 354, 0)] := propext Iff.rfl
theorem e_Law_law_352 {F : List rw4 → Prop} {G : Prop} : lkp F G t_Law_law 352 = F [(.iconst 0, 1, 0, 0), (.ireturn, 1, 1, 0)] := propext Iff.rfl
theorem e_Law_law_354 {F : List rw4 → Prop} {G : Prop} : lkp F G t_Law_law 354 = F [(.iload 5, 2, 0, 0), (.ifCond .ne 15, 3, 371, 0)] := propext Iff.rfl
theorem e_Law_law_359 {F : List rw4 → Prop} {G : Prop} : lkp F G t_Law_law 359 = F [(.aload_n 3, 1, 0, 0), (.iconst 0, 1, 0, 0), (.laload, 1, 0, 0), (.iload 6, 2, 0, 0), (.i2l, 1, 0, 0), (.lcmp, 1, 0, 0), (.ifCond .eq 5, 3, 371, 0)] := propext Iff.rfl
theorem e_Law_law_369 {F : List rw4 → Prop} {G : Prop} : lkp F G t_Law_law 369 = F [(.iconst 0, 1, 0, 0), (.ireturn, 1, 1, 0)] := propext Iff.rfl
theorem e_Law_law_371 {F : List rw4 → Prop} {G : Prop} : lkp F G t_Law_law 371 = F [(.goto 579, 3, 950, 0)] := propext Iff.rfl
theorem e_Law_law_374 {F : List rw4 → Prop} {G : Prop} : lkp F G t_Law_law 374 = F [(.aload_n 1, 1, 0, 0), (.aload_n 0, 1, 0, 0), (.iload 4, 2, 0, 0), (.iconst 1, 1, 0, 0), (.iadd, 1, 0, 0), (.iaload, 1, 0, 0), (.aload_n 0, 1, 0, 0), (.iload 4, 2, 0, 0), (.iconst 2, 1, 0, 0), (.iadd, 1, 0, 0), (.iaload, 1, 0, 0), (.invokevirtual 95, 3, 12, 2), (.aload_n 2, 1, 0, 0), (.aload_n 0, 1, 0, 0), (.iload 4, 2, 0, 0), (.iconst 1, 1, 0, 0), (.iadd, 1, 0, 0), (.iaload, 1, 0, 0), (.aload_n 0, 1, 0, 0), (.iload 4, 2, 0, 0), (.iconst 2, 1, 0, 0), (.iadd, 1, 0, 0), (.iaload, 1, 0, 0), (.invokevirtual 98, 3, 100, 2), (.if_icmp .eq 544, 3, 950, 0)] := propext Iff.rfl
theorem e_Law_law_409 {F : List rw4 → Prop} {G : Prop} : lkp F G t_Law_law 409 = F [(.iconst 0, 1, 0, 0), (.ireturn, 1, 1, 0)] := propext Iff.rfl
theorem e_Law_law_411 {F : List rw4 → Prop} {G : Prop} : lkp F G t_Law_law 411 = F [(.aload_n 1, 1, 0, 0), (.invokevirtual 99, 3, 13, 0), (.aload_n 2, 1, 0, 0), (.invokevirtual 102, 3, 101, 0), (.if_icmp .eq 531, 3, 950, 0)] := propext Iff.rfl
theorem e_Law_law_422 {F : List rw4 → Prop} {G : Prop} : lkp F G t_Law_law 422 = F [(.iconst 0, 1, 0, 0), (.ireturn, 1, 1, 0)] := propext Iff.rfl
theorem e_Law_law_424 {F : List rw4 → Prop} {G : Prop} : lkp F G t_Law_law 424 = F [(.aload_n 1, 1, 0, 0), (.aload_n 0, 1, 0, 0), (.iload 4, 2, 0, 0), (.iconst 1, 1, 0, 0), (.iadd, 1, 0, 0), (.iaload, 1, 0, 0), (.aload_n 0, 1, 0, 0), (.iload 4, 2, 0, 0), (.iconst 2, 1, 0, 0), (.iadd, 1, 0, 0), (.iaload, 1, 0, 0), (.invokevirtual 103, 3, 22, 2), (.aload_n 2, 1, 0, 0), (.aload_n 0, 1, 0, 0), (.iload 4, 2, 0, 0), (.iconst 1, 1, 0, 0), (.iadd, 1, 0, 0), (.iaload, 1, 0, 0), (.aload_n 0, 1, 0, 0), (.iload 4, 2, 0, 0), (.iconst 2, 1, 0, 0), (.iadd, 1, 0, 0), (.iaload, 1, 0, 0), (.invokevirtual 107, 3, 102, 2), (.if_icmp .eq 494, 3, 950, 0)] := propext Iff.rfl
theorem e_Law_law_459 {F : List rw4 → Prop} {G : Prop} : lkp F G t_Law_law 459 = F [(.iconst 0, 1, 0, 0), (.ireturn, 1, 1, 0)] := propext Iff.rfl
theorem e_Law_law_461 {F : List rw4 → Prop} {G : Prop} : lkp F G t_Law_law 461 = F [(.aload_n 1, 1, 0, 0), (.aload_n 0, 1, 0, 0), (.iload 4, 2, 0, 0), (.iconst 1, 1, 0, 0), (.iadd, 1, 0, 0), (.iaload, 1, 0, 0), (.invokevirtual 108, 3, 24, 1), (.aload_n 2, 1, 0, 0), (.aload_n 0, 1, 0, 0), (.iload 4, 2, 0, 0), (.iconst 1, 1, 0, 0), (.iadd, 1, 0, 0), (.iaload, 1, 0, 0), (.invokevirtual 111, 3, 103, 1), (.if_icmp .eq 469, 3, 950, 0)] := propext Iff.rfl
theorem e_Law_law_484 {F : List rw4 → Prop} {G : Prop} : lkp F G t_Law_law 484 = F [(.iconst 0, 1, 0, 0), (.ireturn, 1, 1, 0)] := propext Iff.rfl
theorem e_Law_law_486 {F : List rw4 → Prop} {G : Prop} : lkp F G t_Law_law 486 = F [(.aload_n 1, 1, 0, 0), (.aload_n 3, 1, 0, 0)] := propext Iff.rfl
theorem e_Law_law_488 {F : List rw4 → Prop} {G : Prop} : lkp F G t_Law_law 488 = G := propext Iff.rfl
theorem e_Law_law_491 {F : List rw4 → Prop} {G : Prop} : lkp F G t_Law_law 491 = F [(.istore 5, 2, 0, 0), (.aload_n 2, 1, 0, 0), (.invokevirtual 115, 3, 104, 0), (.istore 6, 2, 0, 0), (.aload_n 2, 1, 0, 0), (.invokevirtual 80, 3, 64, 0), (.iload 5, 2, 0, 0), (.if_icmp .eq 5, 3, 510, 0)] := propext Iff.rfl
theorem e_Law_law_508 {F : List rw4 → Prop} {G : Prop} : lkp F G t_Law_law 508 = F [(.iconst 0, 1, 0, 0), (.ireturn, 1, 1, 0)] := propext Iff.rfl
theorem e_Law_law_510 {F : List rw4 → Prop} {G : Prop} : lkp F G t_Law_law 510 = F [(.iload 5, 2, 0, 0), (.ifCond .ne 15, 3, 527, 0)] := propext Iff.rfl
theorem e_Law_law_515 {F : List rw4 → Prop} {G : Prop} : lkp F G t_Law_law 515 = F [(.aload_n 3, 1, 0, 0), (.iconst 0, 1, 0, 0), (.laload, 1, 0, 0), (.iload 6, 2, 0, 0), (.i2l, 1, 0, 0), (.lcmp, 1, 0, 0), (.ifCond .eq 5, 3, 527, 0)] := propext Iff.rfl
theorem e_Law_law_525 {F : List rw4 → Prop} {G : Prop} : lkp F G t_Law_law 525 = F [(.iconst 0, 1, 0, 0), (.ireturn, 1, 1, 0)] := propext Iff.rfl
theorem e_Law_law_527 {F : List rw4 → Prop} {G : Prop} : lkp F G t_Law_law 527 = F [(.goto 423, 3, 950, 0)] := propext Iff.rfl
theorem e_Law_law_530 {F : List rw4 → Prop} {G : Prop} : lkp F G t_Law_law 530 = F [(.aload_n 1, 1, 0, 0), (.aload_n 0, 1, 0, 0), (.iload 4, 2, 0, 0), (.iconst 1, 1, 0, 0), (.iadd, 1, 0, 0), (.iaload, 1, 0, 0), (.aload_n 3, 1, 0, 0)] := propext Iff.rfl
theorem e_Law_law_538 {F : List rw4 → Prop} {G : Prop} : lkp F G t_Law_law 538 = G := propext Iff.rfl
theorem e_Law_law_541 {F : List rw4 → Prop} {G : Prop} : lkp F G t_Law_law 541 = F [(.istore 5, 2, 0, 0), (.aload_n 2, 1, 0, 0), (.aload_n 0, 1, 0, 0), (.iload 4, 2, 0, 0), (.iconst 1, 1, 0, 0), (.iadd, 1, 0, 0), (.iaload, 1, 0, 0), (.invokevirtual 118, 3, 105, 1), (.istore 6, 2, 0, 0), (.aload_n 2, 1, 0, 0), (.invokevirtual 80, 3, 64, 0), (.iload 5, 2, 0, 0), (.if_icmp .eq 5, 3, 566, 0)] := propext Iff.rfl
theorem e_Law_law_564 {F : List rw4 → Prop} {G : Prop} : lkp F G t_Law_law 564 = F [(.iconst 0, 1, 0, 0), (.ireturn, 1, 1, 0)] := propext Iff.rfl
theorem e_Law_law_566 {F : List rw4 → Prop} {G : Prop} : lkp F G t_Law_law 566 = F [(.iload 5, 2, 0, 0), (.ifCond .ne 15, 3, 583, 0)] := propext Iff.rfl
theorem e_Law_law_571 {F : List rw4 → Prop} {G : Prop} : lkp F G t_Law_law 571 = F [(.aload_n 3, 1, 0, 0), (.iconst 0, 1, 0, 0), (.laload, 1, 0, 0), (.iload 6, 2, 0, 0), (.i2l, 1, 0, 0), (.lcmp, 1, 0, 0), (.ifCond .eq 5, 3, 583, 0)] := propext Iff.rfl
theorem e_Law_law_581 {F : List rw4 → Prop} {G : Prop} : lkp F G t_Law_law 581 = F [(.iconst 0, 1, 0, 0), (.ireturn, 1, 1, 0)] := propext Iff.rfl
theorem e_Law_law_583 {F : List rw4 → Prop} {G : Prop} : lkp F G t_Law_law 583 = F [(.goto 367, 3, 950, 0)] := propext Iff.rfl
theorem e_Law_law_586 {F : List rw4 → Prop} {G : Prop} : lkp F G t_Law_law 586 = F [(.aload_n 1, 1, 0, 0), (.aload_n 0, 1, 0, 0), (.iload 4, 2, 0, 0), (.iconst 1, 1, 0, 0), (.iadd, 1, 0, 0), (.iaload, 1, 0, 0), (.aload_n 3, 1, 0, 0)] := propext Iff.rfl
theorem e_Law_law_594 {F : List rw4 → Prop} {G : Prop} : lkp F G t_Law_law 594 = G := propext Iff.rfl
theorem e_Law_law_597 {F : List rw4 → Prop} {G : Prop} : lkp F G t_Law_law 597 = F [(.istore 5, 2, 0, 0), (.aload_n 2, 1, 0, 0), (.aload_n 0, 1, 0, 0), (.iload 4, 2, 0, 0), (.iconst 1, 1, 0, 0), (.iadd, 1, 0, 0), (.iaload, 1, 0, 0), (.invokevirtual 121, 3, 106, 1), (.istore 6, 2, 0, 0), (.aload_n 2, 1, 0, 0), (.invokevirtual 80, 3, 64, 0), (.iload 5, 2, 0, 0), (.if_icmp .eq 5, 3, 622, 0)] := propext Iff.rfl
theorem e_Law_law_620 {F : List rw4 → Prop} {G : Prop} : lkp F G t_Law_law 620 = F [(.iconst 0, 1, 0, 0), (.ireturn, 1, 1, 0)] := propext Iff.rfl
theorem e_Law_law_622 {F : List rw4 → Prop} {G : Prop} : lkp F G t_Law_law 622 = F [(.iload 5, 2, 0, 0), (.ifCond .ne 22, 3, 646, 0)] := propext Iff.rfl
theorem e_Law_law_627 {F : List rw4 → Prop} {G : Prop} : lkp F G t_Law_law 627 = F [(.aload_n 3, 1, 0, 0), (.iconst 0, 1, 0, 0), (.laload, 1, 0, 0), (.iload 6, 2, 0, 0), (.ifCond .eq 7, 3, 639, 0)] := propext Iff.rfl
theorem e_Law_law_635 {F : List rw4 → Prop} {G : Prop} : lkp F G t_Law_law 635 = F [(.lconst 1, 1, 0, 0), (.goto 4, 3, 640, 0)] := propext Iff.rfl
theorem e_Law_law_639 {F : List rw4 → Prop} {G : Prop} : lkp F G t_Law_law 639 = F [(.lconst 0, 1, 0, 0)] := propext Iff.rfl
theorem e_Law_law_640 {F : List rw4 → Prop} {G : Prop} : lkp F G t_Law_law 640 = F [(.lcmp, 1, 0, 0), (.ifCond .eq 5, 3, 646, 0)] := propext Iff.rfl
theorem e_Law_law_644 {F : List rw4 → Prop} {G : Prop} : lkp F G t_Law_law 644 = F [(.iconst 0, 1, 0, 0), (.ireturn, 1, 1, 0)] := propext Iff.rfl
theorem e_Law_law_646 {F : List rw4 → Prop} {G : Prop} : lkp F G t_Law_law 646 = F [(.goto 304, 3, 950, 0)] := propext Iff.rfl
theorem e_Law_law_649 {F : List rw4 → Prop} {G : Prop} : lkp F G t_Law_law 649 = F [(.aload_n 1, 1, 0, 0), (.aload_n 3, 1, 0, 0)] := propext Iff.rfl
theorem e_Law_law_651 {F : List rw4 → Prop} {G : Prop} : lkp F G t_Law_law 651 = G := propext Iff.rfl
theorem e_Law_law_654 {F : List rw4 → Prop} {G : Prop} : lkp F G t_Law_law 654 = F [(.istore 5, 2, 0, 0), (.aload_n 2, 1, 0, 0), (.invokevirtual 124, 3, 112, 0), (.istore 6, 2, 0, 0), (.aload_n 2, 1, 0, 0), (.invokevirtual 80, 3, 64, 0), (.iload 5, 2, 0, 0), (.if_icmp .eq 5, 3, 673, 0)] := propext Iff.rfl
theorem e_Law_law_671 {F : List rw4 → Prop} {G : Prop} : lkp F G t_Law_law 671 = F [(.iconst 0, 1, 0, 0), (.ireturn, 1, 1, 0)] := propext Iff.rfl
theorem e_Law_law_673 {F : List rw4 → Prop} {G : Prop} : lkp F G t_Law_law 673 = F [(.iload 5, 2, 0, 0), (.ifCond .ne 15, 3, 690, 0)] := propext Iff.rfl
theorem e_Law_law_678 {F : List rw4 → Prop} {G : Prop} : lkp F G t_Law_law 678 = F [(.aload_n 3, 1, 0, 0), (.iconst 0, 1, 0, 0), (.laload, 1, 0, 0), (.iload 6, 2, 0, 0), (.i2l, 1, 0, 0), (.lcmp, 1, 0, 0), (.ifCond .eq 5, 3, 690, 0)] := propext Iff.rfl
theorem e_Law_law_688 {F : List rw4 → Prop} {G : Prop} : lkp F G t_Law_law 688 = F [(.iconst 0, 1, 0, 0), (.ireturn, 1, 1, 0)] := propext Iff.rfl
theorem e_Law_law_690 {F : List rw4 → Prop} {G : Prop} : lkp F G t_Law_law 690 = F [(.goto 260, 3, 950, 0)] := propext Iff.rfl
theorem e_Law_law_693 {F : List rw4 → Prop} {G : Prop} : lkp F G t_Law_law 693 = F [(.aload_n 1, 1, 0, 0), (.aload_n 3, 1, 0, 0)] := propext Iff.rfl
theorem e_Law_law_695 {F : List rw4 → Prop} {G : Prop} : lkp F G t_Law_law 695 = G := propext Iff.rfl
theorem e_Law_law_698 {F : List rw4 → Prop} {G : Prop} : lkp F G t_Law_law 698 = F [(.istore 5, 2, 0, 0), (.aload_n 2, 1, 0, 0), (.invokevirtual 127, 3, 113, 0), (.istore 6, 2, 0, 0), (.aload_n 2, 1, 0, 0), (.invokevirtual 80, 3, 64, 0), (.iload 5, 2, 0, 0), (.if_icmp .eq 5, 3, 717, 0)] := propext Iff.rfl
theorem e_Law_law_715 {F : List rw4 → Prop} {G : Prop} : lkp F G t_Law_law 715 = F [(.iconst 0, 1, 0, 0), (.ireturn, 1, 1, 0)] := propext Iff.rfl
theorem e_Law_law_717 {F : List rw4 → Prop} {G : Prop} : lkp F G t_Law_law 717 = F [(.iload 5, 2, 0, 0), (.ifCond .ne 15, 3, 734, 0)] := propext Iff.rfl
theorem e_Law_law_722 {F : List rw4 → Prop} {G : Prop} : lkp F G t_Law_law 722 = F [(.aload_n 3, 1, 0, 0), (.iconst 0, 1, 0, 0), (.laload, 1, 0, 0), (.iload 6, 2, 0, 0), (.i2l, 1, 0, 0), (.lcmp, 1, 0, 0), (.ifCond .eq 5, 3, 734, 0)] := propext Iff.rfl
theorem e_Law_law_732 {F : List rw4 → Prop} {G : Prop} : lkp F G t_Law_law 732 = F [(.iconst 0, 1, 0, 0), (.ireturn, 1, 1, 0)] := propext Iff.rfl
theorem e_Law_law_734 {F : List rw4 → Prop} {G : Prop} : lkp F G t_Law_law 734 = F [(.goto 216, 3, 950, 0)] := propext Iff.rfl
theorem e_Law_law_737 {F : List rw4 → Prop} {G : Prop} : lkp F G t_Law_law 737 = F [(.aload_n 1, 1, 0, 0), (.aload_n 0, 1, 0, 0), (.iload 4, 2, 0, 0), (.iconst 1, 1, 0, 0), (.iadd, 1, 0, 0), (.iaload, 1, 0, 0), (.aload_n 3, 1, 0, 0)] := propext Iff.rfl
theorem e_Law_law_745 {F : List rw4 → Prop} {G : Prop} : lkp F G t_Law_law 745 = G := propext Iff.rfl
theorem e_Law_law_748 {F : List rw4 → Prop} {G : Prop} : lkp F G t_Law_law 748 = F [(.istore 5, 2, 0, 0), (.aload_n 2, 1, 0, 0), (.aload_n 0, 1, 0, 0), (.iload 4, 2, 0, 0), (.iconst 1, 1, 0, 0), (.iadd, 1, 0, 0), (.iaload, 1, 0, 0), (.invokevirtual 130, 3, 114, 1), (.istore 6, 2, 0, 0), (.aload_n 2, 1, 0, 0), (.invokevirtual 80, 3, 64, 0), (.iload 5, 2, 0, 0), (.if_icmp .eq 5, 3, 773, 0)] := propext Iff.rfl
theorem e_Law_law_771 {F : List rw4 → Prop} {G : Prop} : lkp F G t_Law_law 771 = F [(.iconst 0, 1, 0, 0), (.ireturn, 1, 1, 0)] := propext Iff.rfl
theorem e_Law_law_773 {F : List rw4 → Prop} {G : Prop} : lkp F G t_Law_law 773 = F [(.iload 5, 2, 0, 0), (.ifCond .ne 15, 3, 790, 0)] := propext Iff.rfl
theorem e_Law_law_778 {F : List rw4 → Prop} {G : Prop} : lkp F G t_Law_law 778 = F [(.aload_n 3, 1, 0, 0), (.iconst 0, 1, 0, 0), (.laload, 1, 0, 0), (.iload 6, 2, 0, 0), (.i2l, 1, 0, 0), (.lcmp, 1, 0, 0), (.ifCond .eq 5, 3, 790, 0)] := propext Iff.rfl
theorem e_Law_law_788 {F : List rw4 → Prop} {G : Prop} : lkp F G t_Law_law 788 = F [(.iconst 0, 1, 0, 0), (.ireturn, 1, 1, 0)] := propext Iff.rfl
theorem e_Law_law_790 {F : List rw4 → Prop} {G : Prop} : lkp F G t_Law_law 790 = F [(.goto 160, 3, 950, 0)] := propext Iff.rfl
theorem e_Law_law_793 {F : List rw4 → Prop} {G : Prop} : lkp F G t_Law_law 793 = F [(.aload_n 1, 1, 0, 0), (.aload_n 3, 1, 0, 0)] := propext Iff.rfl
theorem e_Law_law_795 {F : List rw4 → Prop} {G : Prop} : lkp F G t_Law_law 795 = G := propext Iff.rfl
theorem e_Law_law_798 {F : List rw4 → Prop} {G : Prop} : lkp F G t_Law_law 798 = F [(.istore 5, 2, 0, 0), (.aload_n 2, 1, 0, 0), (.invokevirtual 133, 3, 115, 0), (.istore 6, 2, 0, 0), (.aload_n 2, 1, 0, 0), (.invokevirtual 80, 3, 64, 0), (.iload 5, 2, 0, 0), (.if_icmp .eq 5, 3, 817, 0)] := propext Iff.rfl
theorem e_Law_law_815 {F : List rw4 → Prop} {G : Prop} : lkp F G t_Law_law 815 = F [(.iconst 0, 1, 0, 0), (.ireturn, 1, 1, 0)] := propext Iff.rfl
theorem e_Law_law_817 {F : List rw4 → Prop} {G : Prop} : lkp F G t_Law_law 817 = F [(.iload 5, 2, 0, 0), (.ifCond .ne 15, 3, 834, 0)] := propext Iff.rfl
theorem e_Law_law_822 {F : List rw4 → Prop} {G : Prop} : lkp F G t_Law_law 822 = F [(.aload_n 3, 1, 0, 0), (.iconst 0, 1, 0, 0), (.laload, 1, 0, 0), (.iload 6, 2, 0, 0), (.i2l, 1, 0, 0), (.lcmp, 1, 0, 0), (.ifCond .eq 5, 3, 834, 0)] := propext Iff.rfl
theorem e_Law_law_832 {F : List rw4 → Prop} {G : Prop} : lkp F G t_Law_law 832 = F [(.iconst 0, 1, 0, 0), (.ireturn, 1, 1, 0)] := propext Iff.rfl
theorem e_Law_law_834 {F : List rw4 → Prop} {G : Prop} : lkp F G t_Law_law 834 = F [(.goto 116, 3, 950, 0)] := propext Iff.rfl
theorem e_Law_law_837 {F : List rw4 → Prop} {G : Prop} : lkp F G t_Law_law 837 = F [(.aload_n 1, 1, 0, 0), (.invokevirtual 134, 3, 60, 0), (.aload_n 2, 1, 0, 0), (.invokevirtual 137, 3, 116, 0), (.if_icmp .eq 105, 3, 950, 0)] := propext Iff.rfl
theorem e_Law_law_848 {F : List rw4 → Prop} {G : Prop} : lkp F G t_Law_law 848 = F [(.iconst 0, 1, 0, 0), (.ireturn, 1, 1, 0)] := propext Iff.rfl
theorem e_Law_law_850 {F : List rw4 → Prop} {G : Prop} : lkp F G t_Law_law 850 = F [(.aload_n 1, 1, 0, 0), (.aload_n 0, 1, 0, 0), (.iload 4, 2, 0, 0), (.iconst 1, 1, 0, 0), (.iadd, 1, 0, 0), (.iaload, 1, 0, 0), (.aload_n 3, 1, 0, 0)] := propext Iff.rfl
theorem e_Law_law_858 {F : List rw4 → Prop} {G : Prop} : lkp F G t_Law_law 858 = G := propext Iff.rfl
theorem e_Law_law_861 {F : List rw4 → Prop} {G : Prop} : lkp F G t_Law_law 861 = F [(.istore 5, 2, 0, 0), (.aload_n 2, 1, 0, 0), (.aload_n 0, 1, 0, 0), (.iload 4, 2, 0, 0), (.iconst 1, 1, 0, 0), (.iadd, 1, 0, 0), (.iaload, 1, 0, 0), (.invokevirtual 140, 3, 118, 1), (.istore 6, 2, 0, 0), (.aload_n 2, 1, 0, 0), (.invokevirtual 80, 3, 64, 0), (.iload 5, 2, 0, 0), (.if_icmp .eq 5, 3, 886, 0)] := propext Iff.rfl
theorem e_Law_law_884 {F : List rw4 → Prop} {G : Prop} : lkp F G t_Law_law 884 = F [(.iconst 0, 1, 0, 0), (.ireturn, 1, 1, 0)] := propext Iff.rfl
theorem e_Law_law_886 {F : List rw4 → Prop} {G : Prop} : lkp F G t_Law_law 886 = F [(.iload 5, 2, 0, 0), (.ifCond .ne 15, 3, 903, 0)] := propext Iff.rfl
theorem e_Law_law_891 {F : List rw4 → Prop} {G : Prop} : lkp F G t_Law_law 891 = F [(.aload_n 3, 1, 0, 0), (.iconst 0, 1, 0, 0), (.laload, 1, 0, 0), (.iload 6, 2, 0, 0), (.i2l, 1, 0, 0), (.lcmp, 1, 0, 0), (.ifCond .eq 5, 3, 903, 0)] := propext Iff.rfl
theorem e_Law_law_901 {F : List rw4 → Prop} {G : Prop} : lkp F G t_Law_law 901 = F [(.iconst 0, 1, 0, 0), (.ireturn, 1, 1, 0)] := propext Iff.rfl
theorem e_Law_law_903 {F : List rw4 → Prop} {G : Prop} : lkp F G t_Law_law 903 = F [(.goto 47, 3, 950, 0)] := propext Iff.rfl
theorem e_Law_law_906 {F : List rw4 → Prop} {G : Prop} : lkp F G t_Law_law 906 = F [(.aload_n 1, 1, 0, 0), (.aload_n 3, 1, 0, 0)] := propext Iff.rfl
theorem e_Law_law_908 {F : List rw4 → Prop} {G : Prop} : lkp F G t_Law_law 908 = G := propext Iff.rfl
theorem e_Law_law_911 {F : List rw4 → Prop} {G : Prop} : lkp F G t_Law_law 911 = F [(.istore 5, 2, 0, 0), (.aload_n 2, 1, 0, 0), (.invokevirtual 143, 3, 119, 0), (.istore 6, 2, 0, 0), (.aload_n 2, 1, 0, 0), (.invokevirtual 80, 3, 64, 0), (.iload 5, 2, 0, 0), (.if_icmp .eq 5, 3, 930, 0)] := propext Iff.rfl
theorem e_Law_law_928 {F : List rw4 → Prop} {G : Prop} : lkp F G t_Law_law 928 = F [(.iconst 0, 1, 0, 0), (.ireturn, 1, 1, 0)] := propext Iff.rfl
theorem e_Law_law_930 {F : List rw4 → Prop} {G : Prop} : lkp F G t_Law_law 930 = F [(.iload 5, 2, 0, 0), (.ifCond .ne 15, 3, 947, 0)] := propext Iff.rfl
theorem e_Law_law_935 {F : List rw4 → Prop} {G : Prop} : lkp F G t_Law_law 935 = F [(.aload_n 3, 1, 0, 0), (.iconst 0, 1, 0, 0), (.laload, 1, 0, 0), (.iload 6, 2, 0, 0), (.i2l, 1, 0, 0), (.lcmp, 1, 0, 0), (.ifCond .eq 5, 3, 947, 0)] := propext Iff.rfl
theorem e_Law_law_945 {F : List rw4 → Prop} {G : Prop} : lkp F G t_Law_law 945 = F [(.iconst 0, 1, 0, 0), (.ireturn, 1, 1, 0)] := propext Iff.rfl
theorem e_Law_law_947 {F : List rw4 → Prop} {G : Prop} : lkp F G t_Law_law 947 = F [(.goto 3, 3, 950, 0)] := propext Iff.rfl
theorem e_Law_law_950 {F : List rw4 → Prop} {G : Prop} : lkp F G t_Law_law 950 = F [(.iinc 4 4, 3, 0, 0), (.goto (-930), 3, 23, 0)] := propext Iff.rfl
theorem e_Law_law_956 {F : List rw4 → Prop} {G : Prop} : lkp F G t_Law_law 956 = F [(.iconst 1, 1, 0, 0), (.ireturn, 1, 1, 0)] := propext Iff.rfl
