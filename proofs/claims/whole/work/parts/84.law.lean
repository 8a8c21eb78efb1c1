/-! the law: its table, by program out of the printed decode rows; its run; its loop -/
def R_law : String := "StandingLineLaw"
def lw_P (b : Addr) (xs : List Int32) (args : Array Value) (s : State) : Prop := args = #[.ref b] ∧ s.IntsAt b xs ∧ xs.length ≤ 384 ∧ (Jvm.Cond.and given_1 narrow_1).before args s = true
def lw_Q (_ : Array Value) (s : State) (o : Outcome) (t : State) : Prop := o = .returned (some (.int 1)) ∧ Framed s o t [] 600000 7302249
def lw_Z (below : List Frame) (a : Array Value) (s : State) : State → Prop := fun t => ∃ o, t.status = .running ∧ Ended t below o ∧ lw_Q a s o t
/-- the law's own end, with 1 on the stack, nothing written that was there before, its room as the claim has it -/
theorem lw_ret {p : Program} {l : Launch} {e : Env} {s : State} {m : MethodId} {below : List Frame} {meth : Method} {c : Code} {b : Nat} (hx : p.tables.exec = Jvm.exec) (hb : c.code = code) (hr : meth.sig.returnType = ret) (hlocks : meth.locks = false) {pc : Nat} {H : Heap} {ls : Array Slot} (hdg : decode code pc = .ok (.ireturn, 1)) : W p l e room_1 s m #[Value.ref b] below meth c H [] 600000 7302249 (lw_Z below #[Value.ref b] s) (F0 m pc ls [.int 1]) := by
  intro T hT X
  obtain ⟨fs, hret, hrun, hended, hW, hframe⟩ := X.leave (v := some (.int 1)) (hlocks := hlocks) (fun h => by rw [hr] at h; cases h)
  have hmeth' : T.vm.method? m = some meth := X.method'
  refine ⟨T.setFrames fs, ?_, .returned (some (.int 1)), hrun, hended, rfl, ⟨_, rfl⟩, hW, hframe⟩
  jvm_step X.here [X.here.top, hx, hb, hdg, hmeth', hr, ret, narrow_b1]
  (try refine ⟨rfl, ?_⟩); (try refine ⟨rfl, ?_⟩)
  first | (intro acts; rw [hret _ acts rfl rfl rfl]) | rw [hret _ _ rfl rfl rfl]
  exact Steps.refl _
/-- the law from a place within, as mj_Wm for the other methods -/
def lw_W (n : Nat) (sa : mj_Sa) (pc : Nat) (loc : mj_L) (st : List mj_V) (σ : mj_W) : Prop := ∀ (p : Program) (l : Launch) (e : Env) (s : State) (m : MethodId) (below : List Frame) (meth : Method) (c : Code) (D : va_G) (cs : mj_Cs) (A : Nat → Prop) (ad : Nat → Nat) (cu su : Nat),
  mj_Cx p room_1 s m #[Value.ref sa.2.2.1] c D cs A ad sa cu su RL code 4 (n + 1) → (∀ a, A a → s.heap.size ≤ a) → meth.sig.returnType = ret → meth.locks = false → mj_B p l e room_1 s m #[Value.ref sa.2.2.1] below meth c D cs A ad sa cu su (lw_Z below #[Value.ref sa.2.2.1] s) 4 pc loc st σ
theorem lw_rgW {n : Nat} {sa : mj_Sa} {pc : Nat} {loc : mj_L} {st : List mj_V} {σ : mj_W} (h : mj_rg σ → lw_W n sa pc loc st σ) : lw_W n sa pc loc st σ := by
  intro p l e s m below meth c D cs A ad cu su hC hA hr hl H locs ls hP hS hg
  exact h hg p l e s m below meth c D cs A ad cu su hC hA hr hl H locs ls hP hS hg
theorem lw_run {n : Nat} {sa : mj_Sa} {tb : List (Nat × List mj_E)} (hT : mj_okT 14 code 4 ret tb = true) (cuts : List (Nat × List Bool)) (f : Nat) {pc : Nat} {loc : mj_L} {st : List mj_V} {σ : mj_W}
    (h : mj_wp tb cuts (lw_W n sa) (fun r _ => r = some (iV 1)) (mj_Ok n) (some sa.2.2.2.2) f pc loc st σ) : lw_W n sa pc loc st σ := by
  intro p l e s m below meth c D cs A ad cu su hC hA hr hlk
  obtain ⟨hx, hb, -, -, -, -, -, -, -, -, -, hcu, hsu⟩ := id hC
  refine mj_wps (oc := 14) hC hT (fun f9 h9 => (Option.some.inj h9).symm) ⟨?_, ?_, ?_⟩ (fun pc' loc' st' σ' hh => hh p l e s m below meth c D cs A ad cu su hC hA hr hlk) f pc loc st σ h
  · intro x σ' H locs ls pc' hK hxr hP hS hg hd hty
    have e1 : x = 1 := by
      have := Option.some.inj hK
      exact Sum.inl.inj this
    subst e1
    refine va_forget (fun q hq => hA _ (hS.2.2 q hq)) ?_
    refine W.widen (k := 600000) (n := 7302249) hcu hsu ?_
    exact lw_ret hx hb hr hlk hd
  · intro x σ' H locs ls pc' hK hxr hP hS hg hd hty
    cases hty
  · intro σ' H locs ls pc' hK hP hS hg hd hty
    cases hty

def t_Lh : List (Nat × List mj_E) := [
  (961, [(16, .iconst 0, 17, 0, 0, 0, []),
    (17, .istore_n 3, 18, 3, 0, 0, []),
    (18, .iload_n 3, 19, 3, 0, 0, []),
    (19, .aload_n 0, 20, 0, 0, 0, []),
    (20, .arraylength, 21, 0, 0, 0, []),
    (21, .bipush 6, 23, 0, 0, 6, []),
    (23, .isub, 24, 0, 0, 0, []),
    (24, .if_icmp .gt 937, 27, 961, 0, 0, []),
    (27, .aload_n 0, 28, 0, 0, 0, []),
    (28, .iload_n 3, 29, 3, 0, 0, []),
    (29, .iaload, 30, 0, 0, 0, []),
    (30, .bipush 31, 32, 0, 0, 31, []),
    (32, .iand, 33, 0, 0, 0, []),
    (33, .tableswitch 922 0 27 #[127, 180, 203, 236, 279, 302, 325, 338, 351, 374, 407, 440, 463, 486, 499, 552, 575, 598, 621, 664, 677, 700, 723, 746, 810, 853, 876, 899], 160, 955, 127, 0, [(0, 160), (1, 213), (2, 236), (3, 269), (4, 312), (5, 335), (6, 358), (7, 371), (8, 384), (9, 407), (10, 440), (11, 473), (12, 496), (13, 519), (14, 532), (15, 585), (16, 608), (17, 631), (18, 654), (19, 697), (20, 710), (21, 733), (22, 756), (23, 779), (24, 843), (25, 886), (26, 909), (27, 932)]),
    (955, .iinc 3 6, 958, 3, 0, 6, []),
    (958, .goto (-940), 18, 0, 0, 0, [])]),
  (100000, [(961, .iconst 1, 962, 0, 0, 1, []),
    (962, .ireturn, 963, 0, 1, 0, [])])]
set_option maxRecDepth 100000 in
theorem k_Lh : mj_okT 14 code 4 ret t_Lh = true := by decide +kernel
def t_L0 : List (Nat × List mj_E) := [
  (176, [(160, .aload_n 1, 161, 1, 0, 0, []),
    (161, .aload_n 0, 162, 0, 0, 0, []),
    (162, .iload_n 3, 163, 3, 0, 0, []),
    (163, .iconst 1, 164, 0, 0, 1, []),
    (164, .iadd, 165, 0, 0, 0, []),
    (165, .iaload, 166, 0, 0, 0, []),
    (166, .aload_n 0, 167, 0, 0, 0, []),
    (167, .iload_n 3, 168, 3, 0, 0, []),
    (168, .iconst 2, 169, 0, 0, 2, []),
    (169, .iadd, 170, 0, 0, 0, []),
    (170, .iaload, 171, 0, 0, 0, []),
    (171, .aload_n 0, 172, 0, 0, 0, []),
    (172, .iload_n 3, 173, 3, 0, 0, []),
    (173, .iconst 3, 174, 0, 0, 3, []),
    (174, .iadd, 175, 0, 0, 0, []),
    (175, .iaload, 176, 0, 0, 0, [])]),
  (194, [(176, .aload_n 0, 177, 0, 0, 0, []),
    (177, .iload_n 3, 178, 3, 0, 0, []),
    (178, .iconst 4, 179, 0, 0, 4, []),
    (179, .iadd, 180, 0, 0, 0, []),
    (180, .iaload, 181, 0, 0, 0, []),
    (181, .invokevirtual 13, 184, 72, 5, 0, [(0, 11)]),
    (184, .aload_n 2, 185, 2, 0, 0, []),
    (185, .aload_n 0, 186, 0, 0, 0, []),
    (186, .iload_n 3, 187, 3, 0, 0, []),
    (187, .iconst 1, 188, 0, 0, 1, []),
    (188, .iadd, 189, 0, 0, 0, []),
    (189, .iaload, 190, 0, 0, 0, []),
    (190, .aload_n 0, 191, 0, 0, 0, []),
    (191, .iload_n 3, 192, 3, 0, 0, []),
    (192, .iconst 2, 193, 0, 0, 2, []),
    (193, .iadd, 194, 0, 0, 0, [])]),
  (100000, [(194, .iaload, 195, 0, 0, 0, []),
    (195, .aload_n 0, 196, 0, 0, 0, []),
    (196, .iload_n 3, 197, 3, 0, 0, []),
    (197, .iconst 3, 198, 0, 0, 3, []),
    (198, .iadd, 199, 0, 0, 0, []),
    (199, .iaload, 200, 0, 0, 0, []),
    (200, .aload_n 0, 201, 0, 0, 0, []),
    (201, .iload_n 3, 202, 3, 0, 0, []),
    (202, .iconst 4, 203, 0, 0, 4, []),
    (203, .iadd, 204, 0, 0, 0, []),
    (204, .iaload, 205, 0, 0, 0, []),
    (205, .invokevirtual 17, 208, 116, 5, 0, [(0, 12)]),
    (208, .if_icmp .eq 747, 211, 955, 0, 0, []),
    (211, .iconst 0, 212, 0, 0, 0, []),
    (212, .ireturn, 213, 0, 1, 0, [])])]
set_option maxRecDepth 100000 in
theorem k_L0 : mj_okT 14 code 4 ret t_L0 = true := by decide +kernel
def t_L1 : List (Nat × List mj_E) := [
  (235, [(213, .aload_n 1, 214, 1, 0, 0, []),
    (214, .aload_n 0, 215, 0, 0, 0, []),
    (215, .iload_n 3, 216, 3, 0, 0, []),
    (216, .iconst 1, 217, 0, 0, 1, []),
    (217, .iadd, 218, 0, 0, 0, []),
    (218, .iaload, 219, 0, 0, 0, []),
    (219, .invokevirtual 18, 222, 73, 2, 0, [(0, 11)]),
    (222, .aload_n 2, 223, 2, 0, 0, []),
    (223, .aload_n 0, 224, 0, 0, 0, []),
    (224, .iload_n 3, 225, 3, 0, 0, []),
    (225, .iconst 1, 226, 0, 0, 1, []),
    (226, .iadd, 227, 0, 0, 0, []),
    (227, .iaload, 228, 0, 0, 0, []),
    (228, .invokevirtual 22, 231, 118, 2, 0, [(0, 12)]),
    (231, .if_icmp .eq 724, 234, 955, 0, 0, []),
    (234, .iconst 0, 235, 0, 0, 0, [])]),
  (100000, [(235, .ireturn, 236, 0, 1, 0, [])])]
set_option maxRecDepth 100000 in
theorem k_L1 : mj_okT 14 code 4 ret t_L1 = true := by decide +kernel
def t_L2 : List (Nat × List mj_E) := [
  (254, [(236, .aload_n 1, 237, 1, 0, 0, []),
    (237, .aload_n 0, 238, 0, 0, 0, []),
    (238, .iload_n 3, 239, 3, 0, 0, []),
    (239, .iconst 1, 240, 0, 0, 1, []),
    (240, .iadd, 241, 0, 0, 0, []),
    (241, .iaload, 242, 0, 0, 0, []),
    (242, .aload_n 0, 243, 0, 0, 0, []),
    (243, .iload_n 3, 244, 3, 0, 0, []),
    (244, .iconst 2, 245, 0, 0, 2, []),
    (245, .iadd, 246, 0, 0, 0, []),
    (246, .iaload, 247, 0, 0, 0, []),
    (247, .invokevirtual 23, 250, 74, 3, 0, [(0, 11)]),
    (250, .aload_n 2, 251, 2, 0, 0, []),
    (251, .aload_n 0, 252, 0, 0, 0, []),
    (252, .iload_n 3, 253, 3, 0, 0, []),
    (253, .iconst 1, 254, 0, 0, 1, [])]),
  (100000, [(254, .iadd, 255, 0, 0, 0, []),
    (255, .iaload, 256, 0, 0, 0, []),
    (256, .aload_n 0, 257, 0, 0, 0, []),
    (257, .iload_n 3, 258, 3, 0, 0, []),
    (258, .iconst 2, 259, 0, 0, 2, []),
    (259, .iadd, 260, 0, 0, 0, []),
    (260, .iaload, 261, 0, 0, 0, []),
    (261, .invokevirtual 27, 264, 119, 3, 0, [(0, 12)]),
    (264, .if_icmp .eq 691, 267, 955, 0, 0, []),
    (267, .iconst 0, 268, 0, 0, 0, []),
    (268, .ireturn, 269, 0, 1, 0, [])])]
set_option maxRecDepth 100000 in
theorem k_L2 : mj_okT 14 code 4 ret t_L2 = true := by decide +kernel
def t_L3 : List (Nat × List mj_E) := [
  (285, [(269, .aload_n 1, 270, 1, 0, 0, []),
    (270, .aload_n 0, 271, 0, 0, 0, []),
    (271, .iload_n 3, 272, 3, 0, 0, []),
    (272, .iconst 1, 273, 0, 0, 1, []),
    (273, .iadd, 274, 0, 0, 0, []),
    (274, .iaload, 275, 0, 0, 0, []),
    (275, .aload_n 0, 276, 0, 0, 0, []),
    (276, .iload_n 3, 277, 3, 0, 0, []),
    (277, .iconst 2, 278, 0, 0, 2, []),
    (278, .iadd, 279, 0, 0, 0, []),
    (279, .iaload, 280, 0, 0, 0, []),
    (280, .aload_n 0, 281, 0, 0, 0, []),
    (281, .iload_n 3, 282, 3, 0, 0, []),
    (282, .iconst 3, 283, 0, 0, 3, []),
    (283, .iadd, 284, 0, 0, 0, []),
    (284, .iaload, 285, 0, 0, 0, [])]),
  (303, [(285, .invokevirtual 28, 288, 75, 4, 0, [(0, 11)]),
    (288, .aload_n 2, 289, 2, 0, 0, []),
    (289, .aload_n 0, 290, 0, 0, 0, []),
    (290, .iload_n 3, 291, 3, 0, 0, []),
    (291, .iconst 1, 292, 0, 0, 1, []),
    (292, .iadd, 293, 0, 0, 0, []),
    (293, .iaload, 294, 0, 0, 0, []),
    (294, .aload_n 0, 295, 0, 0, 0, []),
    (295, .iload_n 3, 296, 3, 0, 0, []),
    (296, .iconst 2, 297, 0, 0, 2, []),
    (297, .iadd, 298, 0, 0, 0, []),
    (298, .iaload, 299, 0, 0, 0, []),
    (299, .aload_n 0, 300, 0, 0, 0, []),
    (300, .iload_n 3, 301, 3, 0, 0, []),
    (301, .iconst 3, 302, 0, 0, 3, []),
    (302, .iadd, 303, 0, 0, 0, [])]),
  (100000, [(303, .iaload, 304, 0, 0, 0, []),
    (304, .invokevirtual 32, 307, 120, 4, 0, [(0, 12)]),
    (307, .if_icmp .eq 648, 310, 955, 0, 0, []),
    (310, .iconst 0, 311, 0, 0, 0, []),
    (311, .ireturn, 312, 0, 1, 0, [])])]
set_option maxRecDepth 100000 in
theorem k_L3 : mj_okT 14 code 4 ret t_L3 = true := by decide +kernel
def t_L4 : List (Nat × List mj_E) := [
  (334, [(312, .aload_n 1, 313, 1, 0, 0, []),
    (313, .aload_n 0, 314, 0, 0, 0, []),
    (314, .iload_n 3, 315, 3, 0, 0, []),
    (315, .iconst 1, 316, 0, 0, 1, []),
    (316, .iadd, 317, 0, 0, 0, []),
    (317, .iaload, 318, 0, 0, 0, []),
    (318, .invokevirtual 33, 321, 76, 2, 0, [(0, 11)]),
    (321, .aload_n 2, 322, 2, 0, 0, []),
    (322, .aload_n 0, 323, 0, 0, 0, []),
    (323, .iload_n 3, 324, 3, 0, 0, []),
    (324, .iconst 1, 325, 0, 0, 1, []),
    (325, .iadd, 326, 0, 0, 0, []),
    (326, .iaload, 327, 0, 0, 0, []),
    (327, .invokevirtual 36, 330, 121, 2, 0, [(0, 12)]),
    (330, .if_icmp .eq 625, 333, 955, 0, 0, []),
    (333, .iconst 0, 334, 0, 0, 0, [])]),
  (100000, [(334, .ireturn, 335, 0, 1, 0, [])])]
set_option maxRecDepth 100000 in
theorem k_L4 : mj_okT 14 code 4 ret t_L4 = true := by decide +kernel
def t_L5 : List (Nat × List mj_E) := [
  (357, [(335, .aload_n 1, 336, 1, 0, 0, []),
    (336, .aload_n 0, 337, 0, 0, 0, []),
    (337, .iload_n 3, 338, 3, 0, 0, []),
    (338, .iconst 1, 339, 0, 0, 1, []),
    (339, .iadd, 340, 0, 0, 0, []),
    (340, .iaload, 341, 0, 0, 0, []),
    (341, .invokevirtual 37, 344, 77, 2, 0, [(0, 11)]),
    (344, .aload_n 2, 345, 2, 0, 0, []),
    (345, .aload_n 0, 346, 0, 0, 0, []),
    (346, .iload_n 3, 347, 3, 0, 0, []),
    (347, .iconst 1, 348, 0, 0, 1, []),
    (348, .iadd, 349, 0, 0, 0, []),
    (349, .iaload, 350, 0, 0, 0, []),
    (350, .invokevirtual 40, 353, 122, 2, 0, [(0, 12)]),
    (353, .if_icmp .eq 602, 356, 955, 0, 0, []),
    (356, .iconst 0, 357, 0, 0, 0, [])]),
  (100000, [(357, .ireturn, 358, 0, 1, 0, [])])]
set_option maxRecDepth 100000 in
theorem k_L5 : mj_okT 14 code 4 ret t_L5 = true := by decide +kernel
def t_L6 : List (Nat × List mj_E) := [
  (100000, [(358, .aload_n 1, 359, 1, 0, 0, []),
    (359, .invokevirtual 41, 362, 78, 1, 0, [(0, 11)]),
    (362, .aload_n 2, 363, 2, 0, 0, []),
    (363, .invokevirtual 45, 366, 123, 1, 0, [(0, 12)]),
    (366, .if_icmp .eq 589, 369, 955, 0, 0, []),
    (369, .iconst 0, 370, 0, 0, 0, []),
    (370, .ireturn, 371, 0, 1, 0, [])])]
set_option maxRecDepth 100000 in
theorem k_L6 : mj_okT 14 code 4 ret t_L6 = true := by decide +kernel
def t_L7 : List (Nat × List mj_E) := [
  (100000, [(371, .aload_n 1, 372, 1, 0, 0, []),
    (372, .invokevirtual 46, 375, 79, 1, 0, [(0, 11)]),
    (375, .aload_n 2, 376, 2, 0, 0, []),
    (376, .invokevirtual 49, 379, 129, 1, 0, [(0, 12)]),
    (379, .if_icmp .eq 576, 382, 955, 0, 0, []),
    (382, .iconst 0, 383, 0, 0, 0, []),
    (383, .ireturn, 384, 0, 1, 0, [])])]
set_option maxRecDepth 100000 in
theorem k_L7 : mj_okT 14 code 4 ret t_L7 = true := by decide +kernel
def t_L8 : List (Nat × List mj_E) := [
  (406, [(384, .aload_n 1, 385, 1, 0, 0, []),
    (385, .aload_n 0, 386, 0, 0, 0, []),
    (386, .iload_n 3, 387, 3, 0, 0, []),
    (387, .iconst 1, 388, 0, 0, 1, []),
    (388, .iadd, 389, 0, 0, 0, []),
    (389, .iaload, 390, 0, 0, 0, []),
    (390, .invokevirtual 50, 393, 80, 2, 0, [(0, 11)]),
    (393, .aload_n 2, 394, 2, 0, 0, []),
    (394, .aload_n 0, 395, 0, 0, 0, []),
    (395, .iload_n 3, 396, 3, 0, 0, []),
    (396, .iconst 1, 397, 0, 0, 1, []),
    (397, .iadd, 398, 0, 0, 0, []),
    (398, .iaload, 399, 0, 0, 0, []),
    (399, .invokevirtual 53, 402, 141, 2, 0, [(0, 12)]),
    (402, .if_icmp .eq 553, 405, 955, 0, 0, []),
    (405, .iconst 0, 406, 0, 0, 0, [])]),
  (100000, [(406, .ireturn, 407, 0, 1, 0, [])])]
set_option maxRecDepth 100000 in
theorem k_L8 : mj_okT 14 code 4 ret t_L8 = true := by decide +kernel
def t_L9 : List (Nat × List mj_E) := [
  (425, [(407, .aload_n 1, 408, 1, 0, 0, []),
    (408, .aload_n 0, 409, 0, 0, 0, []),
    (409, .iload_n 3, 410, 3, 0, 0, []),
    (410, .iconst 1, 411, 0, 0, 1, []),
    (411, .iadd, 412, 0, 0, 0, []),
    (412, .iaload, 413, 0, 0, 0, []),
    (413, .aload_n 0, 414, 0, 0, 0, []),
    (414, .iload_n 3, 415, 3, 0, 0, []),
    (415, .iconst 2, 416, 0, 0, 2, []),
    (416, .iadd, 417, 0, 0, 0, []),
    (417, .iaload, 418, 0, 0, 0, []),
    (418, .invokevirtual 54, 421, 81, 3, 0, [(0, 11)]),
    (421, .aload_n 2, 422, 2, 0, 0, []),
    (422, .aload_n 0, 423, 0, 0, 0, []),
    (423, .iload_n 3, 424, 3, 0, 0, []),
    (424, .iconst 1, 425, 0, 0, 1, [])]),
  (100000, [(425, .iadd, 426, 0, 0, 0, []),
    (426, .iaload, 427, 0, 0, 0, []),
    (427, .aload_n 0, 428, 0, 0, 0, []),
    (428, .iload_n 3, 429, 3, 0, 0, []),
    (429, .iconst 2, 430, 0, 0, 2, []),
    (430, .iadd, 431, 0, 0, 0, []),
    (431, .iaload, 432, 0, 0, 0, []),
    (432, .invokevirtual 57, 435, 143, 3, 0, [(0, 12)]),
    (435, .if_icmp .eq 520, 438, 955, 0, 0, []),
    (438, .iconst 0, 439, 0, 0, 0, []),
    (439, .ireturn, 440, 0, 1, 0, [])])]
set_option maxRecDepth 100000 in
theorem k_L9 : mj_okT 14 code 4 ret t_L9 = true := by decide +kernel
def t_L10 : List (Nat × List mj_E) := [
  (458, [(440, .aload_n 1, 441, 1, 0, 0, []),
    (441, .aload_n 0, 442, 0, 0, 0, []),
    (442, .iload_n 3, 443, 3, 0, 0, []),
    (443, .iconst 1, 444, 0, 0, 1, []),
    (444, .iadd, 445, 0, 0, 0, []),
    (445, .iaload, 446, 0, 0, 0, []),
    (446, .aload_n 0, 447, 0, 0, 0, []),
    (447, .iload_n 3, 448, 3, 0, 0, []),
    (448, .iconst 2, 449, 0, 0, 2, []),
    (449, .iadd, 450, 0, 0, 0, []),
    (450, .iaload, 451, 0, 0, 0, []),
    (451, .invokevirtual 58, 454, 82, 3, 0, [(0, 11)]),
    (454, .aload_n 2, 455, 2, 0, 0, []),
    (455, .aload_n 0, 456, 0, 0, 0, []),
    (456, .iload_n 3, 457, 3, 0, 0, []),
    (457, .iconst 1, 458, 0, 0, 1, [])]),
  (100000, [(458, .iadd, 459, 0, 0, 0, []),
    (459, .iaload, 460, 0, 0, 0, []),
    (460, .aload_n 0, 461, 0, 0, 0, []),
    (461, .iload_n 3, 462, 3, 0, 0, []),
    (462, .iconst 2, 463, 0, 0, 2, []),
    (463, .iadd, 464, 0, 0, 0, []),
    (464, .iaload, 465, 0, 0, 0, []),
    (465, .invokevirtual 61, 468, 159, 3, 0, [(0, 12)]),
    (468, .if_icmp .eq 487, 471, 955, 0, 0, []),
    (471, .iconst 0, 472, 0, 0, 0, []),
    (472, .ireturn, 473, 0, 1, 0, [])])]
set_option maxRecDepth 100000 in
theorem k_L10 : mj_okT 14 code 4 ret t_L10 = true := by decide +kernel
def t_L11 : List (Nat × List mj_E) := [
  (495, [(473, .aload_n 1, 474, 1, 0, 0, []),
    (474, .aload_n 0, 475, 0, 0, 0, []),
    (475, .iload_n 3, 476, 3, 0, 0, []),
    (476, .iconst 1, 477, 0, 0, 1, []),
    (477, .iadd, 478, 0, 0, 0, []),
    (478, .iaload, 479, 0, 0, 0, []),
    (479, .invokevirtual 62, 482, 83, 2, 0, [(0, 11)]),
    (482, .aload_n 2, 483, 2, 0, 0, []),
    (483, .aload_n 0, 484, 0, 0, 0, []),
    (484, .iload_n 3, 485, 3, 0, 0, []),
    (485, .iconst 1, 486, 0, 0, 1, []),
    (486, .iadd, 487, 0, 0, 0, []),
    (487, .iaload, 488, 0, 0, 0, []),
    (488, .invokevirtual 65, 491, 160, 2, 0, [(0, 12)]),
    (491, .if_icmp .eq 464, 494, 955, 0, 0, []),
    (494, .iconst 0, 495, 0, 0, 0, [])]),
  (100000, [(495, .ireturn, 496, 0, 1, 0, [])])]
set_option maxRecDepth 100000 in
theorem k_L11 : mj_okT 14 code 4 ret t_L11 = true := by decide +kernel
def t_L12 : List (Nat × List mj_E) := [
  (518, [(496, .aload_n 1, 497, 1, 0, 0, []),
    (497, .aload_n 0, 498, 0, 0, 0, []),
    (498, .iload_n 3, 499, 3, 0, 0, []),
    (499, .iconst 1, 500, 0, 0, 1, []),
    (500, .iadd, 501, 0, 0, 0, []),
    (501, .iaload, 502, 0, 0, 0, []),
    (502, .invokevirtual 66, 505, 84, 2, 0, [(0, 11)]),
    (505, .aload_n 2, 506, 2, 0, 0, []),
    (506, .aload_n 0, 507, 0, 0, 0, []),
    (507, .iload_n 3, 508, 3, 0, 0, []),
    (508, .iconst 1, 509, 0, 0, 1, []),
    (509, .iadd, 510, 0, 0, 0, []),
    (510, .iaload, 511, 0, 0, 0, []),
    (511, .invokevirtual 69, 514, 161, 2, 0, [(0, 12)]),
    (514, .if_icmp .eq 441, 517, 955, 0, 0, []),
    (517, .iconst 0, 518, 0, 0, 0, [])]),
  (100000, [(518, .ireturn, 519, 0, 1, 0, [])])]
set_option maxRecDepth 100000 in
theorem k_L12 : mj_okT 14 code 4 ret t_L12 = true := by decide +kernel
def t_L13 : List (Nat × List mj_E) := [
  (100000, [(519, .aload_n 1, 520, 1, 0, 0, []),
    (520, .invokevirtual 70, 523, 85, 1, 0, [(0, 11)]),
    (523, .aload_n 2, 524, 2, 0, 0, []),
    (524, .invokevirtual 73, 527, 162, 1, 0, [(0, 12)]),
    (527, .if_icmp .eq 428, 530, 955, 0, 0, []),
    (530, .iconst 0, 531, 0, 0, 0, []),
    (531, .ireturn, 532, 0, 1, 0, [])])]
set_option maxRecDepth 100000 in
theorem k_L13 : mj_okT 14 code 4 ret t_L13 = true := by decide +kernel
def t_L14 : List (Nat × List mj_E) := [
  (548, [(532, .aload_n 1, 533, 1, 0, 0, []),
    (533, .aload_n 0, 534, 0, 0, 0, []),
    (534, .iload_n 3, 535, 3, 0, 0, []),
    (535, .iconst 1, 536, 0, 0, 1, []),
    (536, .iadd, 537, 0, 0, 0, []),
    (537, .iaload, 538, 0, 0, 0, []),
    (538, .aload_n 0, 539, 0, 0, 0, []),
    (539, .iload_n 3, 540, 3, 0, 0, []),
    (540, .iconst 2, 541, 0, 0, 2, []),
    (541, .iadd, 542, 0, 0, 0, []),
    (542, .iaload, 543, 0, 0, 0, []),
    (543, .aload_n 0, 544, 0, 0, 0, []),
    (544, .iload_n 3, 545, 3, 0, 0, []),
    (545, .iconst 3, 546, 0, 0, 3, []),
    (546, .iadd, 547, 0, 0, 0, []),
    (547, .iaload, 548, 0, 0, 0, [])]),
  (566, [(548, .aload_n 0, 549, 0, 0, 0, []),
    (549, .iload_n 3, 550, 3, 0, 0, []),
    (550, .iconst 4, 551, 0, 0, 4, []),
    (551, .iadd, 552, 0, 0, 0, []),
    (552, .iaload, 553, 0, 0, 0, []),
    (553, .invokevirtual 74, 556, 86, 5, 0, [(0, 11)]),
    (556, .aload_n 2, 557, 2, 0, 0, []),
    (557, .aload_n 0, 558, 0, 0, 0, []),
    (558, .iload_n 3, 559, 3, 0, 0, []),
    (559, .iconst 1, 560, 0, 0, 1, []),
    (560, .iadd, 561, 0, 0, 0, []),
    (561, .iaload, 562, 0, 0, 0, []),
    (562, .aload_n 0, 563, 0, 0, 0, []),
    (563, .iload_n 3, 564, 3, 0, 0, []),
    (564, .iconst 2, 565, 0, 0, 2, []),
    (565, .iadd, 566, 0, 0, 0, [])]),
  (100000, [(566, .iaload, 567, 0, 0, 0, []),
    (567, .aload_n 0, 568, 0, 0, 0, []),
    (568, .iload_n 3, 569, 3, 0, 0, []),
    (569, .iconst 3, 570, 0, 0, 3, []),
    (570, .iadd, 571, 0, 0, 0, []),
    (571, .iaload, 572, 0, 0, 0, []),
    (572, .aload_n 0, 573, 0, 0, 0, []),
    (573, .iload_n 3, 574, 3, 0, 0, []),
    (574, .iconst 4, 575, 0, 0, 4, []),
    (575, .iadd, 576, 0, 0, 0, []),
    (576, .iaload, 577, 0, 0, 0, []),
    (577, .invokevirtual 77, 580, 165, 5, 0, [(0, 12)]),
    (580, .if_icmp .eq 375, 583, 955, 0, 0, []),
    (583, .iconst 0, 584, 0, 0, 0, []),
    (584, .ireturn, 585, 0, 1, 0, [])])]
set_option maxRecDepth 100000 in
theorem k_L14 : mj_okT 14 code 4 ret t_L14 = true := by decide +kernel
def t_L15 : List (Nat × List mj_E) := [
  (607, [(585, .aload_n 1, 586, 1, 0, 0, []),
    (586, .aload_n 0, 587, 0, 0, 0, []),
    (587, .iload_n 3, 588, 3, 0, 0, []),
    (588, .iconst 1, 589, 0, 0, 1, []),
    (589, .iadd, 590, 0, 0, 0, []),
    (590, .iaload, 591, 0, 0, 0, []),
    (591, .invokevirtual 78, 594, 87, 2, 0, [(0, 11)]),
    (594, .aload_n 2, 595, 2, 0, 0, []),
    (595, .aload_n 0, 596, 0, 0, 0, []),
    (596, .iload_n 3, 597, 3, 0, 0, []),
    (597, .iconst 1, 598, 0, 0, 1, []),
    (598, .iadd, 599, 0, 0, 0, []),
    (599, .iaload, 600, 0, 0, 0, []),
    (600, .invokevirtual 81, 603, 170, 2, 0, [(0, 12)]),
    (603, .if_icmp .eq 352, 606, 955, 0, 0, []),
    (606, .iconst 0, 607, 0, 0, 0, [])]),
  (100000, [(607, .ireturn, 608, 0, 1, 0, [])])]
set_option maxRecDepth 100000 in
theorem k_L15 : mj_okT 14 code 4 ret t_L15 = true := by decide +kernel
def t_L16 : List (Nat × List mj_E) := [
  (630, [(608, .aload_n 1, 609, 1, 0, 0, []),
    (609, .aload_n 0, 610, 0, 0, 0, []),
    (610, .iload_n 3, 611, 3, 0, 0, []),
    (611, .iconst 1, 612, 0, 0, 1, []),
    (612, .iadd, 613, 0, 0, 0, []),
    (613, .iaload, 614, 0, 0, 0, []),
    (614, .invokevirtual 82, 617, 88, 2, 0, [(0, 11)]),
    (617, .aload_n 2, 618, 2, 0, 0, []),
    (618, .aload_n 0, 619, 0, 0, 0, []),
    (619, .iload_n 3, 620, 3, 0, 0, []),
    (620, .iconst 1, 621, 0, 0, 1, []),
    (621, .iadd, 622, 0, 0, 0, []),
    (622, .iaload, 623, 0, 0, 0, []),
    (623, .invokevirtual 85, 626, 171, 2, 0, [(0, 12)]),
    (626, .if_icmp .eq 329, 629, 955, 0, 0, []),
    (629, .iconst 0, 630, 0, 0, 0, [])]),
  (100000, [(630, .ireturn, 631, 0, 1, 0, [])])]
set_option maxRecDepth 100000 in
theorem k_L16 : mj_okT 14 code 4 ret t_L16 = true := by decide +kernel
def t_L17 : List (Nat × List mj_E) := [
  (653, [(631, .aload_n 1, 632, 1, 0, 0, []),
    (632, .aload_n 0, 633, 0, 0, 0, []),
    (633, .iload_n 3, 634, 3, 0, 0, []),
    (634, .iconst 1, 635, 0, 0, 1, []),
    (635, .iadd, 636, 0, 0, 0, []),
    (636, .iaload, 637, 0, 0, 0, []),
    (637, .invokevirtual 86, 640, 89, 2, 0, [(0, 11)]),
    (640, .aload_n 2, 641, 2, 0, 0, []),
    (641, .aload_n 0, 642, 0, 0, 0, []),
    (642, .iload_n 3, 643, 3, 0, 0, []),
    (643, .iconst 1, 644, 0, 0, 1, []),
    (644, .iadd, 645, 0, 0, 0, []),
    (645, .iaload, 646, 0, 0, 0, []),
    (646, .invokevirtual 89, 649, 175, 2, 0, [(0, 12)]),
    (649, .if_icmp .eq 306, 652, 955, 0, 0, []),
    (652, .iconst 0, 653, 0, 0, 0, [])]),
  (100000, [(653, .ireturn, 654, 0, 1, 0, [])])]
set_option maxRecDepth 100000 in
theorem k_L17 : mj_okT 14 code 4 ret t_L17 = true := by decide +kernel
def t_L18 : List (Nat × List mj_E) := [
  (670, [(654, .aload_n 1, 655, 1, 0, 0, []),
    (655, .aload_n 0, 656, 0, 0, 0, []),
    (656, .iload_n 3, 657, 3, 0, 0, []),
    (657, .iconst 1, 658, 0, 0, 1, []),
    (658, .iadd, 659, 0, 0, 0, []),
    (659, .iaload, 660, 0, 0, 0, []),
    (660, .aload_n 0, 661, 0, 0, 0, []),
    (661, .iload_n 3, 662, 3, 0, 0, []),
    (662, .iconst 2, 663, 0, 0, 2, []),
    (663, .iadd, 664, 0, 0, 0, []),
    (664, .iaload, 665, 0, 0, 0, []),
    (665, .aload_n 0, 666, 0, 0, 0, []),
    (666, .iload_n 3, 667, 3, 0, 0, []),
    (667, .iconst 3, 668, 0, 0, 3, []),
    (668, .iadd, 669, 0, 0, 0, []),
    (669, .iaload, 670, 0, 0, 0, [])]),
  (688, [(670, .invokevirtual 90, 673, 90, 4, 0, [(0, 11)]),
    (673, .aload_n 2, 674, 2, 0, 0, []),
    (674, .aload_n 0, 675, 0, 0, 0, []),
    (675, .iload_n 3, 676, 3, 0, 0, []),
    (676, .iconst 1, 677, 0, 0, 1, []),
    (677, .iadd, 678, 0, 0, 0, []),
    (678, .iaload, 679, 0, 0, 0, []),
    (679, .aload_n 0, 680, 0, 0, 0, []),
    (680, .iload_n 3, 681, 3, 0, 0, []),
    (681, .iconst 2, 682, 0, 0, 2, []),
    (682, .iadd, 683, 0, 0, 0, []),
    (683, .iaload, 684, 0, 0, 0, []),
    (684, .aload_n 0, 685, 0, 0, 0, []),
    (685, .iload_n 3, 686, 3, 0, 0, []),
    (686, .iconst 3, 687, 0, 0, 3, []),
    (687, .iadd, 688, 0, 0, 0, [])]),
  (100000, [(688, .iaload, 689, 0, 0, 0, []),
    (689, .invokevirtual 93, 692, 176, 4, 0, [(0, 12)]),
    (692, .if_icmp .eq 263, 695, 955, 0, 0, []),
    (695, .iconst 0, 696, 0, 0, 0, []),
    (696, .ireturn, 697, 0, 1, 0, [])])]
set_option maxRecDepth 100000 in
theorem k_L18 : mj_okT 14 code 4 ret t_L18 = true := by decide +kernel
def t_L19 : List (Nat × List mj_E) := [
  (100000, [(697, .aload_n 1, 698, 1, 0, 0, []),
    (698, .invokevirtual 94, 701, 91, 1, 0, [(0, 11)]),
    (701, .aload_n 2, 702, 2, 0, 0, []),
    (702, .invokevirtual 97, 705, 177, 1, 0, [(0, 12)]),
    (705, .if_icmp .eq 250, 708, 955, 0, 0, []),
    (708, .iconst 0, 709, 0, 0, 0, []),
    (709, .ireturn, 710, 0, 1, 0, [])])]
set_option maxRecDepth 100000 in
theorem k_L19 : mj_okT 14 code 4 ret t_L19 = true := by decide +kernel
def t_L20 : List (Nat × List mj_E) := [
  (732, [(710, .aload_n 1, 711, 1, 0, 0, []),
    (711, .aload_n 0, 712, 0, 0, 0, []),
    (712, .iload_n 3, 713, 3, 0, 0, []),
    (713, .iconst 1, 714, 0, 0, 1, []),
    (714, .iadd, 715, 0, 0, 0, []),
    (715, .iaload, 716, 0, 0, 0, []),
    (716, .invokevirtual 98, 719, 92, 2, 0, [(0, 11)]),
    (719, .aload_n 2, 720, 2, 0, 0, []),
    (720, .aload_n 0, 721, 0, 0, 0, []),
    (721, .iload_n 3, 722, 3, 0, 0, []),
    (722, .iconst 1, 723, 0, 0, 1, []),
    (723, .iadd, 724, 0, 0, 0, []),
    (724, .iaload, 725, 0, 0, 0, []),
    (725, .invokevirtual 101, 728, 182, 2, 0, [(0, 12)]),
    (728, .if_icmp .eq 227, 731, 955, 0, 0, []),
    (731, .iconst 0, 732, 0, 0, 0, [])]),
  (100000, [(732, .ireturn, 733, 0, 1, 0, [])])]
set_option maxRecDepth 100000 in
theorem k_L20 : mj_okT 14 code 4 ret t_L20 = true := by decide +kernel
def t_L21 : List (Nat × List mj_E) := [
  (755, [(733, .aload_n 1, 734, 1, 0, 0, []),
    (734, .aload_n 0, 735, 0, 0, 0, []),
    (735, .iload_n 3, 736, 3, 0, 0, []),
    (736, .iconst 1, 737, 0, 0, 1, []),
    (737, .iadd, 738, 0, 0, 0, []),
    (738, .iaload, 739, 0, 0, 0, []),
    (739, .invokevirtual 102, 742, 93, 2, 0, [(0, 11)]),
    (742, .aload_n 2, 743, 2, 0, 0, []),
    (743, .aload_n 0, 744, 0, 0, 0, []),
    (744, .iload_n 3, 745, 3, 0, 0, []),
    (745, .iconst 1, 746, 0, 0, 1, []),
    (746, .iadd, 747, 0, 0, 0, []),
    (747, .iaload, 748, 0, 0, 0, []),
    (748, .invokevirtual 105, 751, 184, 2, 0, [(0, 12)]),
    (751, .if_icmp .eq 204, 754, 955, 0, 0, []),
    (754, .iconst 0, 755, 0, 0, 0, [])]),
  (100000, [(755, .ireturn, 756, 0, 1, 0, [])])]
set_option maxRecDepth 100000 in
theorem k_L21 : mj_okT 14 code 4 ret t_L21 = true := by decide +kernel
def t_L22 : List (Nat × List mj_E) := [
  (778, [(756, .aload_n 1, 757, 1, 0, 0, []),
    (757, .aload_n 0, 758, 0, 0, 0, []),
    (758, .iload_n 3, 759, 3, 0, 0, []),
    (759, .iconst 1, 760, 0, 0, 1, []),
    (760, .iadd, 761, 0, 0, 0, []),
    (761, .iaload, 762, 0, 0, 0, []),
    (762, .invokevirtual 106, 765, 94, 2, 0, [(0, 11)]),
    (765, .aload_n 2, 766, 2, 0, 0, []),
    (766, .aload_n 0, 767, 0, 0, 0, []),
    (767, .iload_n 3, 768, 3, 0, 0, []),
    (768, .iconst 1, 769, 0, 0, 1, []),
    (769, .iadd, 770, 0, 0, 0, []),
    (770, .iaload, 771, 0, 0, 0, []),
    (771, .invokevirtual 109, 774, 187, 2, 0, [(0, 12)]),
    (774, .if_icmp .eq 181, 777, 955, 0, 0, []),
    (777, .iconst 0, 778, 0, 0, 0, [])]),
  (100000, [(778, .ireturn, 779, 0, 1, 0, [])])]
set_option maxRecDepth 100000 in
theorem k_L22 : mj_okT 14 code 4 ret t_L22 = true := by decide +kernel
def t_L23 : List (Nat × List mj_E) := [
  (795, [(779, .aload_n 1, 780, 1, 0, 0, []),
    (780, .aload_n 0, 781, 0, 0, 0, []),
    (781, .iload_n 3, 782, 3, 0, 0, []),
    (782, .iconst 1, 783, 0, 0, 1, []),
    (783, .iadd, 784, 0, 0, 0, []),
    (784, .iaload, 785, 0, 0, 0, []),
    (785, .aload_n 0, 786, 0, 0, 0, []),
    (786, .iload_n 3, 787, 3, 0, 0, []),
    (787, .iconst 2, 788, 0, 0, 2, []),
    (788, .iadd, 789, 0, 0, 0, []),
    (789, .iaload, 790, 0, 0, 0, []),
    (790, .aload_n 0, 791, 0, 0, 0, []),
    (791, .iload_n 3, 792, 3, 0, 0, []),
    (792, .iconst 3, 793, 0, 0, 3, []),
    (793, .iadd, 794, 0, 0, 0, []),
    (794, .iaload, 795, 0, 0, 0, [])]),
  (813, [(795, .aload_n 0, 796, 0, 0, 0, []),
    (796, .iload_n 3, 797, 3, 0, 0, []),
    (797, .iconst 4, 798, 0, 0, 4, []),
    (798, .iadd, 799, 0, 0, 0, []),
    (799, .iaload, 800, 0, 0, 0, []),
    (800, .aload_n 0, 801, 0, 0, 0, []),
    (801, .iload_n 3, 802, 3, 0, 0, []),
    (802, .iconst 5, 803, 0, 0, 5, []),
    (803, .iadd, 804, 0, 0, 0, []),
    (804, .iaload, 805, 0, 0, 0, []),
    (805, .invokevirtual 110, 808, 95, 6, 0, [(0, 11)]),
    (808, .aload_n 2, 809, 2, 0, 0, []),
    (809, .aload_n 0, 810, 0, 0, 0, []),
    (810, .iload_n 3, 811, 3, 0, 0, []),
    (811, .iconst 1, 812, 0, 0, 1, []),
    (812, .iadd, 813, 0, 0, 0, [])]),
  (829, [(813, .iaload, 814, 0, 0, 0, []),
    (814, .aload_n 0, 815, 0, 0, 0, []),
    (815, .iload_n 3, 816, 3, 0, 0, []),
    (816, .iconst 2, 817, 0, 0, 2, []),
    (817, .iadd, 818, 0, 0, 0, []),
    (818, .iaload, 819, 0, 0, 0, []),
    (819, .aload_n 0, 820, 0, 0, 0, []),
    (820, .iload_n 3, 821, 3, 0, 0, []),
    (821, .iconst 3, 822, 0, 0, 3, []),
    (822, .iadd, 823, 0, 0, 0, []),
    (823, .iaload, 824, 0, 0, 0, []),
    (824, .aload_n 0, 825, 0, 0, 0, []),
    (825, .iload_n 3, 826, 3, 0, 0, []),
    (826, .iconst 4, 827, 0, 0, 4, []),
    (827, .iadd, 828, 0, 0, 0, []),
    (828, .iaload, 829, 0, 0, 0, [])]),
  (100000, [(829, .aload_n 0, 830, 0, 0, 0, []),
    (830, .iload_n 3, 831, 3, 0, 0, []),
    (831, .iconst 5, 832, 0, 0, 5, []),
    (832, .iadd, 833, 0, 0, 0, []),
    (833, .iaload, 834, 0, 0, 0, []),
    (834, .invokevirtual 114, 837, 190, 6, 0, [(0, 12)]),
    (837, .lcmp, 841, 955, 0, 117, []),
    (838, .ifCond .eq 117, 841, 955, 0, 0, []),
    (841, .iconst 0, 842, 0, 0, 0, []),
    (842, .ireturn, 843, 0, 1, 0, [])])]
set_option maxRecDepth 100000 in
theorem k_L23 : mj_okT 14 code 4 ret t_L23 = true := by decide +kernel
def t_L24 : List (Nat × List mj_E) := [
  (859, [(843, .aload_n 1, 844, 1, 0, 0, []),
    (844, .aload_n 0, 845, 0, 0, 0, []),
    (845, .iload_n 3, 846, 3, 0, 0, []),
    (846, .iconst 1, 847, 0, 0, 1, []),
    (847, .iadd, 848, 0, 0, 0, []),
    (848, .iaload, 849, 0, 0, 0, []),
    (849, .aload_n 0, 850, 0, 0, 0, []),
    (850, .iload_n 3, 851, 3, 0, 0, []),
    (851, .iconst 2, 852, 0, 0, 2, []),
    (852, .iadd, 853, 0, 0, 0, []),
    (853, .iaload, 854, 0, 0, 0, []),
    (854, .aload_n 0, 855, 0, 0, 0, []),
    (855, .iload_n 3, 856, 3, 0, 0, []),
    (856, .iconst 3, 857, 0, 0, 3, []),
    (857, .iadd, 858, 0, 0, 0, []),
    (858, .iaload, 859, 0, 0, 0, [])]),
  (877, [(859, .invokevirtual 115, 862, 96, 4, 0, [(0, 11)]),
    (862, .aload_n 2, 863, 2, 0, 0, []),
    (863, .aload_n 0, 864, 0, 0, 0, []),
    (864, .iload_n 3, 865, 3, 0, 0, []),
    (865, .iconst 1, 866, 0, 0, 1, []),
    (866, .iadd, 867, 0, 0, 0, []),
    (867, .iaload, 868, 0, 0, 0, []),
    (868, .aload_n 0, 869, 0, 0, 0, []),
    (869, .iload_n 3, 870, 3, 0, 0, []),
    (870, .iconst 2, 871, 0, 0, 2, []),
    (871, .iadd, 872, 0, 0, 0, []),
    (872, .iaload, 873, 0, 0, 0, []),
    (873, .aload_n 0, 874, 0, 0, 0, []),
    (874, .iload_n 3, 875, 3, 0, 0, []),
    (875, .iconst 3, 876, 0, 0, 3, []),
    (876, .iadd, 877, 0, 0, 0, [])]),
  (100000, [(877, .iaload, 878, 0, 0, 0, []),
    (878, .invokevirtual 118, 881, 191, 4, 0, [(0, 12)]),
    (881, .if_icmp .eq 74, 884, 955, 0, 0, []),
    (884, .iconst 0, 885, 0, 0, 0, []),
    (885, .ireturn, 886, 0, 1, 0, [])])]
set_option maxRecDepth 100000 in
theorem k_L24 : mj_okT 14 code 4 ret t_L24 = true := by decide +kernel
def t_L25 : List (Nat × List mj_E) := [
  (908, [(886, .aload_n 1, 887, 1, 0, 0, []),
    (887, .aload_n 0, 888, 0, 0, 0, []),
    (888, .iload_n 3, 889, 3, 0, 0, []),
    (889, .iconst 1, 890, 0, 0, 1, []),
    (890, .iadd, 891, 0, 0, 0, []),
    (891, .iaload, 892, 0, 0, 0, []),
    (892, .invokevirtual 119, 895, 97, 2, 0, [(0, 11)]),
    (895, .aload_n 2, 896, 2, 0, 0, []),
    (896, .aload_n 0, 897, 0, 0, 0, []),
    (897, .iload_n 3, 898, 3, 0, 0, []),
    (898, .iconst 1, 899, 0, 0, 1, []),
    (899, .iadd, 900, 0, 0, 0, []),
    (900, .iaload, 901, 0, 0, 0, []),
    (901, .invokevirtual 122, 904, 195, 2, 0, [(0, 12)]),
    (904, .if_icmp .eq 51, 907, 955, 0, 0, []),
    (907, .iconst 0, 908, 0, 0, 0, [])]),
  (100000, [(908, .ireturn, 909, 0, 1, 0, [])])]
set_option maxRecDepth 100000 in
theorem k_L25 : mj_okT 14 code 4 ret t_L25 = true := by decide +kernel
def t_L26 : List (Nat × List mj_E) := [
  (931, [(909, .aload_n 1, 910, 1, 0, 0, []),
    (910, .aload_n 0, 911, 0, 0, 0, []),
    (911, .iload_n 3, 912, 3, 0, 0, []),
    (912, .iconst 1, 913, 0, 0, 1, []),
    (913, .iadd, 914, 0, 0, 0, []),
    (914, .iaload, 915, 0, 0, 0, []),
    (915, .invokevirtual 123, 918, 98, 2, 0, [(0, 11)]),
    (918, .aload_n 2, 919, 2, 0, 0, []),
    (919, .aload_n 0, 920, 0, 0, 0, []),
    (920, .iload_n 3, 921, 3, 0, 0, []),
    (921, .iconst 1, 922, 0, 0, 1, []),
    (922, .iadd, 923, 0, 0, 0, []),
    (923, .iaload, 924, 0, 0, 0, []),
    (924, .invokevirtual 126, 927, 196, 2, 0, [(0, 12)]),
    (927, .if_icmp .eq 28, 930, 955, 0, 0, []),
    (930, .iconst 0, 931, 0, 0, 0, [])]),
  (100000, [(931, .ireturn, 932, 0, 1, 0, [])])]
set_option maxRecDepth 100000 in
theorem k_L26 : mj_okT 14 code 4 ret t_L26 = true := by decide +kernel
def t_L27 : List (Nat × List mj_E) := [
  (954, [(932, .aload_n 1, 933, 1, 0, 0, []),
    (933, .aload_n 0, 934, 0, 0, 0, []),
    (934, .iload_n 3, 935, 3, 0, 0, []),
    (935, .iconst 1, 936, 0, 0, 1, []),
    (936, .iadd, 937, 0, 0, 0, []),
    (937, .iaload, 938, 0, 0, 0, []),
    (938, .invokevirtual 127, 941, 99, 2, 0, [(0, 11)]),
    (941, .aload_n 2, 942, 2, 0, 0, []),
    (942, .aload_n 0, 943, 0, 0, 0, []),
    (943, .iload_n 3, 944, 3, 0, 0, []),
    (944, .iconst 1, 945, 0, 0, 1, []),
    (945, .iadd, 946, 0, 0, 0, []),
    (946, .iaload, 947, 0, 0, 0, []),
    (947, .invokevirtual 130, 950, 198, 2, 0, [(0, 12)]),
    (950, .if_icmp .eq 5, 953, 955, 0, 0, []),
    (953, .iconst 0, 954, 0, 0, 0, [])]),
  (100000, [(954, .ireturn, 955, 0, 1, 0, [])])]
set_option maxRecDepth 100000 in
theorem k_L27 : mj_okT 14 code 4 ret t_L27 = true := by decide +kernel
theorem lc_0 {n L : Nat} {sa : mj_Sa} {i : Int} {σ : mj_W} (hL : L ≤ 384) (hi : 0 ≤ i ∧ i + 6 ≤ (L : Int)) (hg : mj_rg σ) (hR : q_Rel σ 58) (hb : ∀ σ2, q_Rel σ2 58 → lw_W (n + 10) sa 955 [some (rV 27 L 0), some (rV 11 0 0), some (rV 12 0 58), some (iV i)] [] σ2) : lw_W (n + 10) sa 160 [some (rV 27 L 0), some (rV 11 0 0), some (rV 12 0 58), some (iV i)] [] σ := by
  refine lw_run k_L0 [(955, [true, true, true, true])] 600 ?_
  repeat' (first | (refine mj_ite (fun h => ?_) (fun h => ?_) <;> first | (exfalso; omega) | skip) | refine mj_vci (by first | omega | (simp (disch := omega) only [up_ne, up_at, q_up_at, q_up_ne, cp_ne]; omega)) ?_)
  refine p_stand hR (fun v σ1 h2 => ?_)
  repeat' (first | (refine mj_ite (fun h => ?_) (fun h => ?_) <;> first | (exfalso; omega) | skip) | refine mj_vci (by first | omega | (simp (disch := omega) only [up_ne, up_at, q_up_at, q_up_ne, cp_ne]; omega)) ?_)
  refine h2 _ (fun σ2 hR2 => ?_)
  repeat' (first | (refine mj_ite (fun h => ?_) (fun h => ?_) <;> first | (exfalso; omega) | skip) | refine mj_vci (by first | omega | (simp (disch := omega) only [up_ne, up_at, q_up_at, q_up_ne, cp_ne]; omega)) ?_)
  all_goals exact hb _ hR2
theorem lc_1 {n L : Nat} {sa : mj_Sa} {i : Int} {σ : mj_W} (hL : L ≤ 384) (hi : 0 ≤ i ∧ i + 6 ≤ (L : Int)) (hg : mj_rg σ) (hR : q_Rel σ 58) (hb : ∀ σ2, q_Rel σ2 58 → lw_W (n + 10) sa 955 [some (rV 27 L 0), some (rV 11 0 0), some (rV 12 0 58), some (iV i)] [] σ2) : lw_W (n + 10) sa 213 [some (rV 27 L 0), some (rV 11 0 0), some (rV 12 0 58), some (iV i)] [] σ := by
  refine lw_run k_L1 [(955, [true, true, true, true])] 600 ?_
  repeat' (first | (refine mj_ite (fun h => ?_) (fun h => ?_) <;> first | (exfalso; omega) | skip) | refine mj_vci (by first | omega | (simp (disch := omega) only [up_ne, up_at, q_up_at, q_up_ne, cp_ne]; omega)) ?_)
  refine p_leave hR (fun v σ1 h2 => ?_)
  repeat' (first | (refine mj_ite (fun h => ?_) (fun h => ?_) <;> first | (exfalso; omega) | skip) | refine mj_vci (by first | omega | (simp (disch := omega) only [up_ne, up_at, q_up_at, q_up_ne, cp_ne]; omega)) ?_)
  refine h2 _ (fun σ2 hR2 => ?_)
  repeat' (first | (refine mj_ite (fun h => ?_) (fun h => ?_) <;> first | (exfalso; omega) | skip) | refine mj_vci (by first | omega | (simp (disch := omega) only [up_ne, up_at, q_up_at, q_up_ne, cp_ne]; omega)) ?_)
  all_goals exact hb _ hR2
theorem lc_2 {n L : Nat} {sa : mj_Sa} {i : Int} {σ : mj_W} (hL : L ≤ 384) (hi : 0 ≤ i ∧ i + 6 ≤ (L : Int)) (hg : mj_rg σ) (hR : q_Rel σ 58) (hb : ∀ σ2, q_Rel σ2 58 → lw_W (n + 10) sa 955 [some (rV 27 L 0), some (rV 11 0 0), some (rV 12 0 58), some (iV i)] [] σ2) : lw_W (n + 10) sa 236 [some (rV 27 L 0), some (rV 11 0 0), some (rV 12 0 58), some (iV i)] [] σ := by
  refine lw_run k_L2 [(955, [true, true, true, true])] 600 ?_
  repeat' (first | (refine mj_ite (fun h => ?_) (fun h => ?_) <;> first | (exfalso; omega) | skip) | refine mj_vci (by first | omega | (simp (disch := omega) only [up_ne, up_at, q_up_at, q_up_ne, cp_ne]; omega)) ?_)
  refine p_set hR (fun v σ1 h2 => ?_)
  repeat' (first | (refine mj_ite (fun h => ?_) (fun h => ?_) <;> first | (exfalso; omega) | skip) | refine mj_vci (by first | omega | (simp (disch := omega) only [up_ne, up_at, q_up_at, q_up_ne, cp_ne]; omega)) ?_)
  refine h2 _ (fun σ2 hR2 => ?_)
  repeat' (first | (refine mj_ite (fun h => ?_) (fun h => ?_) <;> first | (exfalso; omega) | skip) | refine mj_vci (by first | omega | (simp (disch := omega) only [up_ne, up_at, q_up_at, q_up_ne, cp_ne]; omega)) ?_)
  all_goals exact hb _ hR2
theorem lc_3 {n L : Nat} {sa : mj_Sa} {i : Int} {σ : mj_W} (hL : L ≤ 384) (hi : 0 ≤ i ∧ i + 6 ≤ (L : Int)) (hg : mj_rg σ) (hR : q_Rel σ 58) (hb : ∀ σ2, q_Rel σ2 58 → lw_W (n + 10) sa 955 [some (rV 27 L 0), some (rV 11 0 0), some (rV 12 0 58), some (iV i)] [] σ2) : lw_W (n + 10) sa 269 [some (rV 27 L 0), some (rV 11 0 0), some (rV 12 0 58), some (iV i)] [] σ := by
  refine lw_run k_L3 [(955, [true, true, true, true])] 600 ?_
  repeat' (first | (refine mj_ite (fun h => ?_) (fun h => ?_) <;> first | (exfalso; omega) | skip) | refine mj_vci (by first | omega | (simp (disch := omega) only [up_ne, up_at, q_up_at, q_up_ne, cp_ne]; omega)) ?_)
  refine p_village hR (fun v σ1 h2 => ?_)
  repeat' (first | (refine mj_ite (fun h => ?_) (fun h => ?_) <;> first | (exfalso; omega) | skip) | refine mj_vci (by first | omega | (simp (disch := omega) only [up_ne, up_at, q_up_at, q_up_ne, cp_ne]; omega)) ?_)
  refine h2 _ (fun σ2 hR2 => ?_)
  repeat' (first | (refine mj_ite (fun h => ?_) (fun h => ?_) <;> first | (exfalso; omega) | skip) | refine mj_vci (by first | omega | (simp (disch := omega) only [up_ne, up_at, q_up_at, q_up_ne, cp_ne]; omega)) ?_)
  all_goals exact hb _ hR2
theorem lc_4 {n L : Nat} {sa : mj_Sa} {i : Int} {σ : mj_W} (hL : L ≤ 384) (hi : 0 ≤ i ∧ i + 6 ≤ (L : Int)) (hg : mj_rg σ) (hR : q_Rel σ 58) (hb : ∀ σ2, q_Rel σ2 58 → lw_W (n + 10) sa 955 [some (rV 27 L 0), some (rV 11 0 0), some (rV 12 0 58), some (iV i)] [] σ2) : lw_W (n + 10) sa 312 [some (rV 27 L 0), some (rV 11 0 0), some (rV 12 0 58), some (iV i)] [] σ := by
  refine lw_run k_L4 [(955, [true, true, true, true])] 600 ?_
  repeat' (first | (refine mj_ite (fun h => ?_) (fun h => ?_) <;> first | (exfalso; omega) | skip) | refine mj_vci (by first | omega | (simp (disch := omega) only [up_ne, up_at, q_up_at, q_up_ne, cp_ne]; omega)) ?_)
  refine p_raze hR (fun v σ1 h2 => ?_)
  repeat' (first | (refine mj_ite (fun h => ?_) (fun h => ?_) <;> first | (exfalso; omega) | skip) | refine mj_vci (by first | omega | (simp (disch := omega) only [up_ne, up_at, q_up_at, q_up_ne, cp_ne]; omega)) ?_)
  refine h2 _ (fun σ2 hR2 => ?_)
  repeat' (first | (refine mj_ite (fun h => ?_) (fun h => ?_) <;> first | (exfalso; omega) | skip) | refine mj_vci (by first | omega | (simp (disch := omega) only [up_ne, up_at, q_up_at, q_up_ne, cp_ne]; omega)) ?_)
  all_goals exact hb _ hR2
theorem lc_5 {n L : Nat} {sa : mj_Sa} {i : Int} {σ : mj_W} (hL : L ≤ 384) (hi : 0 ≤ i ∧ i + 6 ≤ (L : Int)) (hg : mj_rg σ) (hR : q_Rel σ 58) (hb : ∀ σ2, q_Rel σ2 58 → lw_W (n + 10) sa 955 [some (rV 27 L 0), some (rV 11 0 0), some (rV 12 0 58), some (iV i)] [] σ2) : lw_W (n + 10) sa 335 [some (rV 27 L 0), some (rV 11 0 0), some (rV 12 0 58), some (iV i)] [] σ := by
  refine lw_run k_L5 [(955, [true, true, true, true])] 600 ?_
  repeat' (first | (refine mj_ite (fun h => ?_) (fun h => ?_) <;> first | (exfalso; omega) | skip) | refine mj_vci (by first | omega | (simp (disch := omega) only [up_ne, up_at, q_up_at, q_up_ne, cp_ne]; omega)) ?_)
  refine p_say hR (fun v σ1 h2 => ?_)
  repeat' (first | (refine mj_ite (fun h => ?_) (fun h => ?_) <;> first | (exfalso; omega) | skip) | refine mj_vci (by first | omega | (simp (disch := omega) only [up_ne, up_at, q_up_at, q_up_ne, cp_ne]; omega)) ?_)
  refine h2 _ (fun σ2 hR2 => ?_)
  repeat' (first | (refine mj_ite (fun h => ?_) (fun h => ?_) <;> first | (exfalso; omega) | skip) | refine mj_vci (by first | omega | (simp (disch := omega) only [up_ne, up_at, q_up_at, q_up_ne, cp_ne]; omega)) ?_)
  all_goals exact hb _ hR2
theorem lc_6 {n L : Nat} {sa : mj_Sa} {i : Int} {σ : mj_W} (hL : L ≤ 384) (hi : 0 ≤ i ∧ i + 6 ≤ (L : Int)) (hg : mj_rg σ) (hR : q_Rel σ 58) (hb : ∀ σ2, q_Rel σ2 58 → lw_W (n + 10) sa 955 [some (rV 27 L 0), some (rV 11 0 0), some (rV 12 0 58), some (iV i)] [] σ2) : lw_W (n + 10) sa 358 [some (rV 27 L 0), some (rV 11 0 0), some (rV 12 0 58), some (iV i)] [] σ := by
  refine lw_run k_L6 [(955, [true, true, true, true])] 600 ?_
  repeat' (first | (refine mj_ite (fun h => ?_) (fun h => ?_) <;> first | (exfalso; omega) | skip) | refine mj_vci (by first | omega | (simp (disch := omega) only [up_ne, up_at, q_up_at, q_up_ne, cp_ne]; omega)) ?_)
  refine p_wipe hR (fun v σ1 h2 => ?_)
  repeat' (first | (refine mj_ite (fun h => ?_) (fun h => ?_) <;> first | (exfalso; omega) | skip) | refine mj_vci (by first | omega | (simp (disch := omega) only [up_ne, up_at, q_up_at, q_up_ne, cp_ne]; omega)) ?_)
  refine h2 _ (fun σ2 hR2 => ?_)
  repeat' (first | (refine mj_ite (fun h => ?_) (fun h => ?_) <;> first | (exfalso; omega) | skip) | refine mj_vci (by first | omega | (simp (disch := omega) only [up_ne, up_at, q_up_at, q_up_ne, cp_ne]; omega)) ?_)
  all_goals exact hb _ hR2
theorem lc_7 {n L : Nat} {sa : mj_Sa} {i : Int} {σ : mj_W} (hL : L ≤ 384) (hi : 0 ≤ i ∧ i + 6 ≤ (L : Int)) (hg : mj_rg σ) (hR : q_Rel σ 58) (hb : ∀ σ2, q_Rel σ2 58 → lw_W (n + 10) sa 955 [some (rV 27 L 0), some (rV 11 0 0), some (rV 12 0 58), some (iV i)] [] σ2) : lw_W (n + 10) sa 371 [some (rV 27 L 0), some (rV 11 0 0), some (rV 12 0 58), some (iV i)] [] σ := by
  refine lw_run k_L7 [(955, [true, true, true, true])] 600 ?_
  repeat' (first | (refine mj_ite (fun h => ?_) (fun h => ?_) <;> first | (exfalso; omega) | skip) | refine mj_vci (by first | omega | (simp (disch := omega) only [up_ne, up_at, q_up_at, q_up_ne, cp_ne]; omega)) ?_)
  refine p_fault hR (fun v σ1 h2 => ?_)
  repeat' (first | (refine mj_ite (fun h => ?_) (fun h => ?_) <;> first | (exfalso; omega) | skip) | refine mj_vci (by first | omega | (simp (disch := omega) only [up_ne, up_at, q_up_at, q_up_ne, cp_ne]; omega)) ?_)
  refine h2 _ (fun σ2 hR2 => ?_)
  repeat' (first | (refine mj_ite (fun h => ?_) (fun h => ?_) <;> first | (exfalso; omega) | skip) | refine mj_vci (by first | omega | (simp (disch := omega) only [up_ne, up_at, q_up_at, q_up_ne, cp_ne]; omega)) ?_)
  all_goals exact hb _ hR2
theorem lc_8 {n L : Nat} {sa : mj_Sa} {i : Int} {σ : mj_W} (hL : L ≤ 384) (hi : 0 ≤ i ∧ i + 6 ≤ (L : Int)) (hg : mj_rg σ) (hR : q_Rel σ 58) (hb : ∀ σ2, q_Rel σ2 58 → lw_W (n + 10) sa 955 [some (rV 27 L 0), some (rV 11 0 0), some (rV 12 0 58), some (iV i)] [] σ2) : lw_W (n + 10) sa 384 [some (rV 27 L 0), some (rV 11 0 0), some (rV 12 0 58), some (iV i)] [] σ := by
  refine lw_run k_L8 [(955, [true, true, true, true])] 600 ?_
  repeat' (first | (refine mj_ite (fun h => ?_) (fun h => ?_) <;> first | (exfalso; omega) | skip) | refine mj_vci (by first | omega | (simp (disch := omega) only [up_ne, up_at, q_up_at, q_up_ne, cp_ne]; omega)) ?_)
  refine p_judge hR (fun v σ1 h2 => ?_)
  repeat' (first | (refine mj_ite (fun h => ?_) (fun h => ?_) <;> first | (exfalso; omega) | skip) | refine mj_vci (by first | omega | (simp (disch := omega) only [up_ne, up_at, q_up_at, q_up_ne, cp_ne]; omega)) ?_)
  refine h2 _ (fun σ2 hR2 => ?_)
  repeat' (first | (refine mj_ite (fun h => ?_) (fun h => ?_) <;> first | (exfalso; omega) | skip) | refine mj_vci (by first | omega | (simp (disch := omega) only [up_ne, up_at, q_up_at, q_up_ne, cp_ne]; omega)) ?_)
  all_goals exact hb _ hR2
theorem lc_9 {n L : Nat} {sa : mj_Sa} {i : Int} {σ : mj_W} (hL : L ≤ 384) (hi : 0 ≤ i ∧ i + 6 ≤ (L : Int)) (hg : mj_rg σ) (hR : q_Rel σ 58) (hb : ∀ σ2, q_Rel σ2 58 → lw_W (n + 10) sa 955 [some (rV 27 L 0), some (rV 11 0 0), some (rV 12 0 58), some (iV i)] [] σ2) : lw_W (n + 10) sa 407 [some (rV 27 L 0), some (rV 11 0 0), some (rV 12 0 58), some (iV i)] [] σ := by
  refine lw_run k_L9 [(955, [true, true, true, true])] 600 ?_
  repeat' (first | (refine mj_ite (fun h => ?_) (fun h => ?_) <;> first | (exfalso; omega) | skip) | refine mj_vci (by first | omega | (simp (disch := omega) only [up_ne, up_at, q_up_at, q_up_ne, cp_ne]; omega)) ?_)
  refine p_behind hR (fun v σ1 h2 => ?_)
  repeat' (first | (refine mj_ite (fun h => ?_) (fun h => ?_) <;> first | (exfalso; omega) | skip) | refine mj_vci (by first | omega | (simp (disch := omega) only [up_ne, up_at, q_up_at, q_up_ne, cp_ne]; omega)) ?_)
  refine h2 _ (fun σ2 hR2 => ?_)
  repeat' (first | (refine mj_ite (fun h => ?_) (fun h => ?_) <;> first | (exfalso; omega) | skip) | refine mj_vci (by first | omega | (simp (disch := omega) only [up_ne, up_at, q_up_at, q_up_ne, cp_ne]; omega)) ?_)
  all_goals exact hb _ hR2
theorem lc_10 {n L : Nat} {sa : mj_Sa} {i : Int} {σ : mj_W} (hL : L ≤ 384) (hi : 0 ≤ i ∧ i + 6 ≤ (L : Int)) (hg : mj_rg σ) (hR : q_Rel σ 58) (hb : ∀ σ2, q_Rel σ2 58 → lw_W (n + 10) sa 955 [some (rV 27 L 0), some (rV 11 0 0), some (rV 12 0 58), some (iV i)] [] σ2) : lw_W (n + 10) sa 440 [some (rV 27 L 0), some (rV 11 0 0), some (rV 12 0 58), some (iV i)] [] σ := by
  refine lw_run k_L10 [(955, [true, true, true, true])] 600 ?_
  repeat' (first | (refine mj_ite (fun h => ?_) (fun h => ?_) <;> first | (exfalso; omega) | skip) | refine mj_vci (by first | omega | (simp (disch := omega) only [up_ne, up_at, q_up_at, q_up_ne, cp_ne]; omega)) ?_)
  refine p_side hR (fun v σ1 h2 => ?_)
  repeat' (first | (refine mj_ite (fun h => ?_) (fun h => ?_) <;> first | (exfalso; omega) | skip) | refine mj_vci (by first | omega | (simp (disch := omega) only [up_ne, up_at, q_up_at, q_up_ne, cp_ne]; omega)) ?_)
  refine h2 _ (fun σ2 hR2 => ?_)
  repeat' (first | (refine mj_ite (fun h => ?_) (fun h => ?_) <;> first | (exfalso; omega) | skip) | refine mj_vci (by first | omega | (simp (disch := omega) only [up_ne, up_at, q_up_at, q_up_ne, cp_ne]; omega)) ?_)
  all_goals exact hb _ hR2
theorem lc_11 {n L : Nat} {sa : mj_Sa} {i : Int} {σ : mj_W} (hL : L ≤ 384) (hi : 0 ≤ i ∧ i + 6 ≤ (L : Int)) (hg : mj_rg σ) (hR : q_Rel σ 58) (hb : ∀ σ2, q_Rel σ2 58 → lw_W (n + 10) sa 955 [some (rV 27 L 0), some (rV 11 0 0), some (rV 12 0 58), some (iV i)] [] σ2) : lw_W (n + 10) sa 473 [some (rV 27 L 0), some (rV 11 0 0), some (rV 12 0 58), some (iV i)] [] σ := by
  refine lw_run k_L11 [(955, [true, true, true, true])] 600 ?_
  repeat' (first | (refine mj_ite (fun h => ?_) (fun h => ?_) <;> first | (exfalso; omega) | skip) | refine mj_vci (by first | omega | (simp (disch := omega) only [up_ne, up_at, q_up_at, q_up_ne, cp_ne]; omega)) ?_)
  refine p_south hR (fun v σ1 h2 => ?_)
  repeat' (first | (refine mj_ite (fun h => ?_) (fun h => ?_) <;> first | (exfalso; omega) | skip) | refine mj_vci (by first | omega | (simp (disch := omega) only [up_ne, up_at, q_up_at, q_up_ne, cp_ne]; omega)) ?_)
  refine h2 _ (fun σ2 hR2 => ?_)
  repeat' (first | (refine mj_ite (fun h => ?_) (fun h => ?_) <;> first | (exfalso; omega) | skip) | refine mj_vci (by first | omega | (simp (disch := omega) only [up_ne, up_at, q_up_at, q_up_ne, cp_ne]; omega)) ?_)
  all_goals exact hb _ hR2
theorem lc_12 {n L : Nat} {sa : mj_Sa} {i : Int} {σ : mj_W} (hL : L ≤ 384) (hi : 0 ≤ i ∧ i + 6 ≤ (L : Int)) (hg : mj_rg σ) (hR : q_Rel σ 58) (hb : ∀ σ2, q_Rel σ2 58 → lw_W (n + 10) sa 955 [some (rV 27 L 0), some (rV 11 0 0), some (rV 12 0 58), some (iV i)] [] σ2) : lw_W (n + 10) sa 496 [some (rV 27 L 0), some (rV 11 0 0), some (rV 12 0 58), some (iV i)] [] σ := by
  refine lw_run k_L12 [(955, [true, true, true, true])] 600 ?_
  repeat' (first | (refine mj_ite (fun h => ?_) (fun h => ?_) <;> first | (exfalso; omega) | skip) | refine mj_vci (by first | omega | (simp (disch := omega) only [up_ne, up_at, q_up_at, q_up_ne, cp_ne]; omega)) ?_)
  refine p_lies hR (fun v σ1 h2 => ?_)
  repeat' (first | (refine mj_ite (fun h => ?_) (fun h => ?_) <;> first | (exfalso; omega) | skip) | refine mj_vci (by first | omega | (simp (disch := omega) only [up_ne, up_at, q_up_at, q_up_ne, cp_ne]; omega)) ?_)
  refine h2 _ (fun σ2 hR2 => ?_)
  repeat' (first | (refine mj_ite (fun h => ?_) (fun h => ?_) <;> first | (exfalso; omega) | skip) | refine mj_vci (by first | omega | (simp (disch := omega) only [up_ne, up_at, q_up_at, q_up_ne, cp_ne]; omega)) ?_)
  all_goals exact hb _ hR2
theorem lc_13 {n L : Nat} {sa : mj_Sa} {i : Int} {σ : mj_W} (hL : L ≤ 384) (hi : 0 ≤ i ∧ i + 6 ≤ (L : Int)) (hg : mj_rg σ) (hR : q_Rel σ 58) (hb : ∀ σ2, q_Rel σ2 58 → lw_W (n + 10) sa 955 [some (rV 27 L 0), some (rV 11 0 0), some (rV 12 0 58), some (iV i)] [] σ2) : lw_W (n + 10) sa 519 [some (rV 27 L 0), some (rV 11 0 0), some (rV 12 0 58), some (iV i)] [] σ := by
  refine lw_run k_L13 [(955, [true, true, true, true])] 600 ?_
  repeat' (first | (refine mj_ite (fun h => ?_) (fun h => ?_) <;> first | (exfalso; omega) | skip) | refine mj_vci (by first | omega | (simp (disch := omega) only [up_ne, up_at, q_up_at, q_up_ne, cp_ne]; omega)) ?_)
  refine p_done hR (fun v σ1 h2 => ?_)
  repeat' (first | (refine mj_ite (fun h => ?_) (fun h => ?_) <;> first | (exfalso; omega) | skip) | refine mj_vci (by first | omega | (simp (disch := omega) only [up_ne, up_at, q_up_at, q_up_ne, cp_ne]; omega)) ?_)
  refine h2 _ (fun σ2 hR2 => ?_)
  repeat' (first | (refine mj_ite (fun h => ?_) (fun h => ?_) <;> first | (exfalso; omega) | skip) | refine mj_vci (by first | omega | (simp (disch := omega) only [up_ne, up_at, q_up_at, q_up_ne, cp_ne]; omega)) ?_)
  all_goals exact hb _ hR2
theorem lc_14 {n L : Nat} {sa : mj_Sa} {i : Int} {σ : mj_W} (hL : L ≤ 384) (hi : 0 ≤ i ∧ i + 6 ≤ (L : Int)) (hg : mj_rg σ) (hR : q_Rel σ 58) (hb : ∀ σ2, q_Rel σ2 58 → lw_W (n + 10) sa 955 [some (rV 27 L 0), some (rV 11 0 0), some (rV 12 0 58), some (iV i)] [] σ2) : lw_W (n + 10) sa 532 [some (rV 27 L 0), some (rV 11 0 0), some (rV 12 0 58), some (iV i)] [] σ := by
  refine lw_run k_L14 [(955, [true, true, true, true])] 600 ?_
  repeat' (first | (refine mj_ite (fun h => ?_) (fun h => ?_) <;> first | (exfalso; omega) | skip) | refine mj_vci (by first | omega | (simp (disch := omega) only [up_ne, up_at, q_up_at, q_up_ne, cp_ne]; omega)) ?_)
  refine p_sway hR (fun v σ1 h2 => ?_)
  repeat' (first | (refine mj_ite (fun h => ?_) (fun h => ?_) <;> first | (exfalso; omega) | skip) | refine mj_vci (by first | omega | (simp (disch := omega) only [up_ne, up_at, q_up_at, q_up_ne, cp_ne]; omega)) ?_)
  refine h2 _ (fun σ2 hR2 => ?_)
  repeat' (first | (refine mj_ite (fun h => ?_) (fun h => ?_) <;> first | (exfalso; omega) | skip) | refine mj_vci (by first | omega | (simp (disch := omega) only [up_ne, up_at, q_up_at, q_up_ne, cp_ne]; omega)) ?_)
  all_goals exact hb _ hR2
theorem lc_15 {n L : Nat} {sa : mj_Sa} {i : Int} {σ : mj_W} (hL : L ≤ 384) (hi : 0 ≤ i ∧ i + 6 ≤ (L : Int)) (hg : mj_rg σ) (hR : q_Rel σ 58) (hb : ∀ σ2, q_Rel σ2 58 → lw_W (n + 10) sa 955 [some (rV 27 L 0), some (rV 11 0 0), some (rV 12 0 58), some (iV i)] [] σ2) : lw_W (n + 10) sa 585 [some (rV 27 L 0), some (rV 11 0 0), some (rV 12 0 58), some (iV i)] [] σ := by
  refine lw_run k_L15 [(955, [true, true, true, true])] 600 ?_
  repeat' (first | (refine mj_ite (fun h => ?_) (fun h => ?_) <;> first | (exfalso; omega) | skip) | refine mj_vci (by first | omega | (simp (disch := omega) only [up_ne, up_at, q_up_at, q_up_ne, cp_ne]; omega)) ?_)
  refine p_fair hR (fun v σ1 h2 => ?_)
  repeat' (first | (refine mj_ite (fun h => ?_) (fun h => ?_) <;> first | (exfalso; omega) | skip) | refine mj_vci (by first | omega | (simp (disch := omega) only [up_ne, up_at, q_up_at, q_up_ne, cp_ne]; omega)) ?_)
  refine h2 _ (fun σ2 hR2 => ?_)
  repeat' (first | (refine mj_ite (fun h => ?_) (fun h => ?_) <;> first | (exfalso; omega) | skip) | refine mj_vci (by first | omega | (simp (disch := omega) only [up_ne, up_at, q_up_at, q_up_ne, cp_ne]; omega)) ?_)
  all_goals exact hb _ hR2
theorem lc_16 {n L : Nat} {sa : mj_Sa} {i : Int} {σ : mj_W} (hL : L ≤ 384) (hi : 0 ≤ i ∧ i + 6 ≤ (L : Int)) (hg : mj_rg σ) (hR : q_Rel σ 58) (hb : ∀ σ2, q_Rel σ2 58 → lw_W (n + 10) sa 955 [some (rV 27 L 0), some (rV 11 0 0), some (rV 12 0 58), some (iV i)] [] σ2) : lw_W (n + 10) sa 608 [some (rV 27 L 0), some (rV 11 0 0), some (rV 12 0 58), some (iV i)] [] σ := by
  refine lw_run k_L16 [(955, [true, true, true, true])] 600 ?_
  repeat' (first | (refine mj_ite (fun h => ?_) (fun h => ?_) <;> first | (exfalso; omega) | skip) | refine mj_vci (by first | omega | (simp (disch := omega) only [up_ne, up_at, q_up_at, q_up_ne, cp_ne]; omega)) ?_)
  refine p_cedes hR (fun v σ1 h2 => ?_)
  repeat' (first | (refine mj_ite (fun h => ?_) (fun h => ?_) <;> first | (exfalso; omega) | skip) | refine mj_vci (by first | omega | (simp (disch := omega) only [up_ne, up_at, q_up_at, q_up_ne, cp_ne]; omega)) ?_)
  refine h2 _ (fun σ2 hR2 => ?_)
  repeat' (first | (refine mj_ite (fun h => ?_) (fun h => ?_) <;> first | (exfalso; omega) | skip) | refine mj_vci (by first | omega | (simp (disch := omega) only [up_ne, up_at, q_up_at, q_up_ne, cp_ne]; omega)) ?_)
  all_goals exact hb _ hR2
theorem lc_17 {n L : Nat} {sa : mj_Sa} {i : Int} {σ : mj_W} (hL : L ≤ 384) (hi : 0 ≤ i ∧ i + 6 ≤ (L : Int)) (hg : mj_rg σ) (hR : q_Rel σ 58) (hb : ∀ σ2, q_Rel σ2 58 → lw_W (n + 10) sa 955 [some (rV 27 L 0), some (rV 11 0 0), some (rV 12 0 58), some (iV i)] [] σ2) : lw_W (n + 10) sa 631 [some (rV 27 L 0), some (rV 11 0 0), some (rV 12 0 58), some (iV i)] [] σ := by
  refine lw_run k_L17 [(955, [true, true, true, true])] 600 ?_
  repeat' (first | (refine mj_ite (fun h => ?_) (fun h => ?_) <;> first | (exfalso; omega) | skip) | refine mj_vci (by first | omega | (simp (disch := omega) only [up_ne, up_at, q_up_at, q_up_ne, cp_ne]; omega)) ?_)
  refine p_orders hR (fun v σ1 h2 => ?_)
  repeat' (first | (refine mj_ite (fun h => ?_) (fun h => ?_) <;> first | (exfalso; omega) | skip) | refine mj_vci (by first | omega | (simp (disch := omega) only [up_ne, up_at, q_up_at, q_up_ne, cp_ne]; omega)) ?_)
  refine h2 _ (fun σ2 hR2 => ?_)
  repeat' (first | (refine mj_ite (fun h => ?_) (fun h => ?_) <;> first | (exfalso; omega) | skip) | refine mj_vci (by first | omega | (simp (disch := omega) only [up_ne, up_at, q_up_at, q_up_ne, cp_ne]; omega)) ?_)
  all_goals exact hb _ hR2
theorem lc_18 {n L : Nat} {sa : mj_Sa} {i : Int} {σ : mj_W} (hL : L ≤ 384) (hi : 0 ≤ i ∧ i + 6 ≤ (L : Int)) (hg : mj_rg σ) (hR : q_Rel σ 58) (hb : ∀ σ2, q_Rel σ2 58 → lw_W (n + 10) sa 955 [some (rV 27 L 0), some (rV 11 0 0), some (rV 12 0 58), some (iV i)] [] σ2) : lw_W (n + 10) sa 654 [some (rV 27 L 0), some (rV 11 0 0), some (rV 12 0 58), some (iV i)] [] σ := by
  refine lw_run k_L18 [(955, [true, true, true, true])] 600 ?_
  repeat' (first | (refine mj_ite (fun h => ?_) (fun h => ?_) <;> first | (exfalso; omega) | skip) | refine mj_vci (by first | omega | (simp (disch := omega) only [up_ne, up_at, q_up_at, q_up_ne, cp_ne]; omega)) ?_)
  refine p_seen hR (fun v σ1 h2 => ?_)
  repeat' (first | (refine mj_ite (fun h => ?_) (fun h => ?_) <;> first | (exfalso; omega) | skip) | refine mj_vci (by first | omega | (simp (disch := omega) only [up_ne, up_at, q_up_at, q_up_ne, cp_ne]; omega)) ?_)
  refine h2 _ (fun σ2 hR2 => ?_)
  repeat' (first | (refine mj_ite (fun h => ?_) (fun h => ?_) <;> first | (exfalso; omega) | skip) | refine mj_vci (by first | omega | (simp (disch := omega) only [up_ne, up_at, q_up_at, q_up_ne, cp_ne]; omega)) ?_)
  all_goals exact hb _ hR2
theorem lc_19 {n L : Nat} {sa : mj_Sa} {i : Int} {σ : mj_W} (hL : L ≤ 384) (hi : 0 ≤ i ∧ i + 6 ≤ (L : Int)) (hg : mj_rg σ) (hR : q_Rel σ 58) (hb : ∀ σ2, q_Rel σ2 58 → lw_W (n + 10) sa 955 [some (rV 27 L 0), some (rV 11 0 0), some (rV 12 0 58), some (iV i)] [] σ2) : lw_W (n + 10) sa 697 [some (rV 27 L 0), some (rV 11 0 0), some (rV 12 0 58), some (iV i)] [] σ := by
  refine lw_run k_L19 [(955, [true, true, true, true])] 600 ?_
  repeat' (first | (refine mj_ite (fun h => ?_) (fun h => ?_) <;> first | (exfalso; omega) | skip) | refine mj_vci (by first | omega | (simp (disch := omega) only [up_ne, up_at, q_up_at, q_up_ne, cp_ne]; omega)) ?_)
  refine p_forget hR (fun v σ1 h2 => ?_)
  repeat' (first | (refine mj_ite (fun h => ?_) (fun h => ?_) <;> first | (exfalso; omega) | skip) | refine mj_vci (by first | omega | (simp (disch := omega) only [up_ne, up_at, q_up_at, q_up_ne, cp_ne]; omega)) ?_)
  refine h2 _ (fun σ2 hR2 => ?_)
  repeat' (first | (refine mj_ite (fun h => ?_) (fun h => ?_) <;> first | (exfalso; omega) | skip) | refine mj_vci (by first | omega | (simp (disch := omega) only [up_ne, up_at, q_up_at, q_up_ne, cp_ne]; omega)) ?_)
  all_goals exact hb _ hR2
theorem lc_20 {n L : Nat} {sa : mj_Sa} {i : Int} {σ : mj_W} (hL : L ≤ 384) (hi : 0 ≤ i ∧ i + 6 ≤ (L : Int)) (hg : mj_rg σ) (hR : q_Rel σ 58) (hb : ∀ σ2, q_Rel σ2 58 → lw_W (n + 10) sa 955 [some (rV 27 L 0), some (rV 11 0 0), some (rV 12 0 58), some (iV i)] [] σ2) : lw_W (n + 10) sa 710 [some (rV 27 L 0), some (rV 11 0 0), some (rV 12 0 58), some (iV i)] [] σ := by
  refine lw_run k_L20 [(955, [true, true, true, true])] 600 ?_
  repeat' (first | (refine mj_ite (fun h => ?_) (fun h => ?_) <;> first | (exfalso; omega) | skip) | refine mj_vci (by first | omega | (simp (disch := omega) only [up_ne, up_at, q_up_at, q_up_ne, cp_ne]; omega)) ?_)
  refine p_moved hR (fun v σ1 h2 => ?_)
  repeat' (first | (refine mj_ite (fun h => ?_) (fun h => ?_) <;> first | (exfalso; omega) | skip) | refine mj_vci (by first | omega | (simp (disch := omega) only [up_ne, up_at, q_up_at, q_up_ne, cp_ne]; omega)) ?_)
  refine h2 _ (fun σ2 hR2 => ?_)
  repeat' (first | (refine mj_ite (fun h => ?_) (fun h => ?_) <;> first | (exfalso; omega) | skip) | refine mj_vci (by first | omega | (simp (disch := omega) only [up_ne, up_at, q_up_at, q_up_ne, cp_ne]; omega)) ?_)
  all_goals exact hb _ hR2
theorem lc_21 {n L : Nat} {sa : mj_Sa} {i : Int} {σ : mj_W} (hL : L ≤ 384) (hi : 0 ≤ i ∧ i + 6 ≤ (L : Int)) (hg : mj_rg σ) (hR : q_Rel σ 58) (hb : ∀ σ2, q_Rel σ2 58 → lw_W (n + 10) sa 955 [some (rV 27 L 0), some (rV 11 0 0), some (rV 12 0 58), some (iV i)] [] σ2) : lw_W (n + 10) sa 733 [some (rV 27 L 0), some (rV 11 0 0), some (rV 12 0 58), some (iV i)] [] σ := by
  refine lw_run k_L21 [(955, [true, true, true, true])] 600 ?_
  repeat' (first | (refine mj_ite (fun h => ?_) (fun h => ?_) <;> first | (exfalso; omega) | skip) | refine mj_vci (by first | omega | (simp (disch := omega) only [up_ne, up_at, q_up_at, q_up_ne, cp_ne]; omega)) ?_)
  refine p_ask hR (fun v σ1 h2 => ?_)
  repeat' (first | (refine mj_ite (fun h => ?_) (fun h => ?_) <;> first | (exfalso; omega) | skip) | refine mj_vci (by first | omega | (simp (disch := omega) only [up_ne, up_at, q_up_at, q_up_ne, cp_ne]; omega)) ?_)
  refine h2 _ (fun σ2 hR2 => ?_)
  repeat' (first | (refine mj_ite (fun h => ?_) (fun h => ?_) <;> first | (exfalso; omega) | skip) | refine mj_vci (by first | omega | (simp (disch := omega) only [up_ne, up_at, q_up_at, q_up_ne, cp_ne]; omega)) ?_)
  all_goals exact hb _ hR2
theorem lc_22 {n L : Nat} {sa : mj_Sa} {i : Int} {σ : mj_W} (hL : L ≤ 384) (hi : 0 ≤ i ∧ i + 6 ≤ (L : Int)) (hg : mj_rg σ) (hR : q_Rel σ 58) (hb : ∀ σ2, q_Rel σ2 58 → lw_W (n + 10) sa 955 [some (rV 27 L 0), some (rV 11 0 0), some (rV 12 0 58), some (iV i)] [] σ2) : lw_W (n + 10) sa 756 [some (rV 27 L 0), some (rV 11 0 0), some (rV 12 0 58), some (iV i)] [] σ := by
  refine lw_run k_L22 [(955, [true, true, true, true])] 600 ?_
  repeat' (first | (refine mj_ite (fun h => ?_) (fun h => ?_) <;> first | (exfalso; omega) | skip) | refine mj_vci (by first | omega | (simp (disch := omega) only [up_ne, up_at, q_up_at, q_up_ne, cp_ne]; omega)) ?_)
  refine p_crowns hR (fun v σ1 h2 => ?_)
  repeat' (first | (refine mj_ite (fun h => ?_) (fun h => ?_) <;> first | (exfalso; omega) | skip) | refine mj_vci (by first | omega | (simp (disch := omega) only [up_ne, up_at, q_up_at, q_up_ne, cp_ne]; omega)) ?_)
  refine h2 _ (fun σ2 hR2 => ?_)
  repeat' (first | (refine mj_ite (fun h => ?_) (fun h => ?_) <;> first | (exfalso; omega) | skip) | refine mj_vci (by first | omega | (simp (disch := omega) only [up_ne, up_at, q_up_at, q_up_ne, cp_ne]; omega)) ?_)
  all_goals exact hb _ hR2
theorem lc_23 {n L : Nat} {sa : mj_Sa} {i : Int} {σ : mj_W} (hL : L ≤ 384) (hi : 0 ≤ i ∧ i + 6 ≤ (L : Int)) (hg : mj_rg σ) (hR : q_Rel σ 58) (hb : ∀ σ2, q_Rel σ2 58 → lw_W (n + 10) sa 955 [some (rV 27 L 0), some (rV 11 0 0), some (rV 12 0 58), some (iV i)] [] σ2) : lw_W (n + 10) sa 779 [some (rV 27 L 0), some (rV 11 0 0), some (rV 12 0 58), some (iV i)] [] σ := by
  refine lw_run k_L23 [(955, [true, true, true, true])] 600 ?_
  repeat' (first | (refine mj_ite (fun h => ?_) (fun h => ?_) <;> first | (exfalso; omega) | skip) | refine mj_vci (by first | omega | (simp (disch := omega) only [up_ne, up_at, q_up_at, q_up_ne, cp_ne]; omega)) ?_)
  refine p_goat hR (fun v σ1 h2 => ?_)
  repeat' (first | (refine mj_ite (fun h => ?_) (fun h => ?_) <;> first | (exfalso; omega) | skip) | refine mj_vci (by first | omega | (simp (disch := omega) only [up_ne, up_at, q_up_at, q_up_ne, cp_ne]; omega)) ?_)
  refine h2 _ (fun σ2 hR2 => ?_)
  repeat' (first | (refine mj_ite (fun h => ?_) (fun h => ?_) <;> first | (exfalso; omega) | skip) | refine mj_vci (by first | omega | (simp (disch := omega) only [up_ne, up_at, q_up_at, q_up_ne, cp_ne]; omega)) ?_)
  all_goals exact hb _ hR2
theorem lc_24 {n L : Nat} {sa : mj_Sa} {i : Int} {σ : mj_W} (hL : L ≤ 384) (hi : 0 ≤ i ∧ i + 6 ≤ (L : Int)) (hg : mj_rg σ) (hR : q_Rel σ 58) (hb : ∀ σ2, q_Rel σ2 58 → lw_W (n + 10) sa 955 [some (rV 27 L 0), some (rV 11 0 0), some (rV 12 0 58), some (iV i)] [] σ2) : lw_W (n + 10) sa 843 [some (rV 27 L 0), some (rV 11 0 0), some (rV 12 0 58), some (iV i)] [] σ := by
  refine lw_run k_L24 [(955, [true, true, true, true])] 600 ?_
  repeat' (first | (refine mj_ite (fun h => ?_) (fun h => ?_) <;> first | (exfalso; omega) | skip) | refine mj_vci (by first | omega | (simp (disch := omega) only [up_ne, up_at, q_up_at, q_up_ne, cp_ne]; omega)) ?_)
  refine p_year hR (fun v σ1 h2 => ?_)
  repeat' (first | (refine mj_ite (fun h => ?_) (fun h => ?_) <;> first | (exfalso; omega) | skip) | refine mj_vci (by first | omega | (simp (disch := omega) only [up_ne, up_at, q_up_at, q_up_ne, cp_ne]; omega)) ?_)
  refine h2 _ (fun σ2 hR2 => ?_)
  repeat' (first | (refine mj_ite (fun h => ?_) (fun h => ?_) <;> first | (exfalso; omega) | skip) | refine mj_vci (by first | omega | (simp (disch := omega) only [up_ne, up_at, q_up_at, q_up_ne, cp_ne]; omega)) ?_)
  all_goals exact hb _ hR2
theorem lc_25 {n L : Nat} {sa : mj_Sa} {i : Int} {σ : mj_W} (hL : L ≤ 384) (hi : 0 ≤ i ∧ i + 6 ≤ (L : Int)) (hg : mj_rg σ) (hR : q_Rel σ 58) (hb : ∀ σ2, q_Rel σ2 58 → lw_W (n + 10) sa 955 [some (rV 27 L 0), some (rV 11 0 0), some (rV 12 0 58), some (iV i)] [] σ2) : lw_W (n + 10) sa 886 [some (rV 27 L 0), some (rV 11 0 0), some (rV 12 0 58), some (iV i)] [] σ := by
  refine lw_run k_L25 [(955, [true, true, true, true])] 600 ?_
  repeat' (first | (refine mj_ite (fun h => ?_) (fun h => ?_) <;> first | (exfalso; omega) | skip) | refine mj_vci (by first | omega | (simp (disch := omega) only [up_ne, up_at, q_up_at, q_up_ne, cp_ne]; omega)) ?_)
  refine p_image hR (fun v σ1 h2 => ?_)
  repeat' (first | (refine mj_ite (fun h => ?_) (fun h => ?_) <;> first | (exfalso; omega) | skip) | refine mj_vci (by first | omega | (simp (disch := omega) only [up_ne, up_at, q_up_at, q_up_ne, cp_ne]; omega)) ?_)
  refine h2 _ (fun σ2 hR2 => ?_)
  repeat' (first | (refine mj_ite (fun h => ?_) (fun h => ?_) <;> first | (exfalso; omega) | skip) | refine mj_vci (by first | omega | (simp (disch := omega) only [up_ne, up_at, q_up_at, q_up_ne, cp_ne]; omega)) ?_)
  all_goals exact hb _ hR2
theorem lc_26 {n L : Nat} {sa : mj_Sa} {i : Int} {σ : mj_W} (hL : L ≤ 384) (hi : 0 ≤ i ∧ i + 6 ≤ (L : Int)) (hg : mj_rg σ) (hR : q_Rel σ 58) (hb : ∀ σ2, q_Rel σ2 58 → lw_W (n + 10) sa 955 [some (rV 27 L 0), some (rV 11 0 0), some (rV 12 0 58), some (iV i)] [] σ2) : lw_W (n + 10) sa 909 [some (rV 27 L 0), some (rV 11 0 0), some (rV 12 0 58), some (iV i)] [] σ := by
  refine lw_run k_L26 [(955, [true, true, true, true])] 600 ?_
  repeat' (first | (refine mj_ite (fun h => ?_) (fun h => ?_) <;> first | (exfalso; omega) | skip) | refine mj_vci (by first | omega | (simp (disch := omega) only [up_ne, up_at, q_up_at, q_up_ne, cp_ne]; omega)) ?_)
  refine p_restore hg hR (fun v σ1 h2 => ?_)
  repeat' (first | (refine mj_ite (fun h => ?_) (fun h => ?_) <;> first | (exfalso; omega) | skip) | refine mj_vci (by first | omega | (simp (disch := omega) only [up_ne, up_at, q_up_at, q_up_ne, cp_ne]; omega)) ?_)
  refine h2 _ (fun σ2 hR2 => ?_)
  repeat' (first | (refine mj_ite (fun h => ?_) (fun h => ?_) <;> first | (exfalso; omega) | skip) | refine mj_vci (by first | omega | (simp (disch := omega) only [up_ne, up_at, q_up_at, q_up_ne, cp_ne]; omega)) ?_)
  all_goals exact hb _ hR2
theorem lc_27 {n L : Nat} {sa : mj_Sa} {i : Int} {σ : mj_W} (hL : L ≤ 384) (hi : 0 ≤ i ∧ i + 6 ≤ (L : Int)) (hg : mj_rg σ) (hR : q_Rel σ 58) (hb : ∀ σ2, q_Rel σ2 58 → lw_W (n + 10) sa 955 [some (rV 27 L 0), some (rV 11 0 0), some (rV 12 0 58), some (iV i)] [] σ2) : lw_W (n + 10) sa 932 [some (rV 27 L 0), some (rV 11 0 0), some (rV 12 0 58), some (iV i)] [] σ := by
  refine lw_run k_L27 [(955, [true, true, true, true])] 600 ?_
  repeat' (first | (refine mj_ite (fun h => ?_) (fun h => ?_) <;> first | (exfalso; omega) | skip) | refine mj_vci (by first | omega | (simp (disch := omega) only [up_ne, up_at, q_up_at, q_up_ne, cp_ne]; omega)) ?_)
  refine p_told hR (fun v σ1 h2 => ?_)
  repeat' (first | (refine mj_ite (fun h => ?_) (fun h => ?_) <;> first | (exfalso; omega) | skip) | refine mj_vci (by first | omega | (simp (disch := omega) only [up_ne, up_at, q_up_at, q_up_ne, cp_ne]; omega)) ?_)
  refine h2 _ (fun σ2 hR2 => ?_)
  repeat' (first | (refine mj_ite (fun h => ?_) (fun h => ?_) <;> first | (exfalso; omega) | skip) | refine mj_vci (by first | omega | (simp (disch := omega) only [up_ne, up_at, q_up_at, q_up_ne, cp_ne]; omega)) ?_)
  all_goals exact hb _ hR2
theorem lw_head {n L : Nat} {sa : mj_Sa} {i : Int} {σ : mj_W} (hL : L ≤ 384) (h0 : 0 ≤ i) (h1 : i ≤ (L : Int)) (hR : q_Rel σ 58)
    (hn : i + 6 ≤ (L : Int) → ∀ σ2, q_Rel σ2 58 → lw_W (n + 10) sa 18 [some (rV 27 L 0), some (rV 11 0 0), some (rV 12 0 58), some (iV (i + 6))] [] σ2) : lw_W (n + 10) sa 18 [some (rV 27 L 0), some (rV 11 0 0), some (rV 12 0 58), some (iV i)] [] σ := by
  refine lw_rgW (fun hg => ?_)
  by_cases hi : i + 6 ≤ (L : Int)
  · have hb : ∀ σ2, q_Rel σ2 58 → lw_W (n + 10) sa 955 [some (rV 27 L 0), some (rV 11 0 0), some (rV 12 0 58), some (iV i)] [] σ2 := by
      intro σ2 hR2
      refine lw_run k_Lh [(18, [true, true, true, true])] 600 ?_
      repeat' (first | (refine mj_ite (fun h => ?_) (fun h => ?_) <;> first | (exfalso; omega) | skip) | refine mj_vci (by first | omega | (simp (disch := omega) only [up_ne, up_at, q_up_at, q_up_ne, cp_ne]; omega)) ?_)
      exact hn hi _ hR2
    refine lw_run k_Lh [(160, [true, true, true, true]), (213, [true, true, true, true]), (236, [true, true, true, true]), (269, [true, true, true, true]), (312, [true, true, true, true]), (335, [true, true, true, true]), (358, [true, true, true, true]), (371, [true, true, true, true]), (384, [true, true, true, true]), (407, [true, true, true, true]), (440, [true, true, true, true]), (473, [true, true, true, true]), (496, [true, true, true, true]), (519, [true, true, true, true]), (532, [true, true, true, true]), (585, [true, true, true, true]), (608, [true, true, true, true]), (631, [true, true, true, true]), (654, [true, true, true, true]), (697, [true, true, true, true]), (710, [true, true, true, true]), (733, [true, true, true, true]), (756, [true, true, true, true]), (779, [true, true, true, true]), (843, [true, true, true, true]), (886, [true, true, true, true]), (909, [true, true, true, true]), (932, [true, true, true, true]), (955, [true, true, true, true])] 600 ?_
    repeat' (first | (refine mj_ite (fun h => ?_) (fun h => ?_) <;> first | (exfalso; omega) | skip) | refine mj_vci (by first | omega | (simp (disch := omega) only [up_ne, up_at, q_up_at, q_up_ne, cp_ne]; omega)) ?_)
    · exact lc_0 hL ⟨h0, by omega⟩ hg hR hb
    · exact lc_1 hL ⟨h0, by omega⟩ hg hR hb
    · exact lc_2 hL ⟨h0, by omega⟩ hg hR hb
    · exact lc_3 hL ⟨h0, by omega⟩ hg hR hb
    · exact lc_4 hL ⟨h0, by omega⟩ hg hR hb
    · exact lc_5 hL ⟨h0, by omega⟩ hg hR hb
    · exact lc_6 hL ⟨h0, by omega⟩ hg hR hb
    · exact lc_7 hL ⟨h0, by omega⟩ hg hR hb
    · exact lc_8 hL ⟨h0, by omega⟩ hg hR hb
    · exact lc_9 hL ⟨h0, by omega⟩ hg hR hb
    · exact lc_10 hL ⟨h0, by omega⟩ hg hR hb
    · exact lc_11 hL ⟨h0, by omega⟩ hg hR hb
    · exact lc_12 hL ⟨h0, by omega⟩ hg hR hb
    · exact lc_13 hL ⟨h0, by omega⟩ hg hR hb
    · exact lc_14 hL ⟨h0, by omega⟩ hg hR hb
    · exact lc_15 hL ⟨h0, by omega⟩ hg hR hb
    · exact lc_16 hL ⟨h0, by omega⟩ hg hR hb
    · exact lc_17 hL ⟨h0, by omega⟩ hg hR hb
    · exact lc_18 hL ⟨h0, by omega⟩ hg hR hb
    · exact lc_19 hL ⟨h0, by omega⟩ hg hR hb
    · exact lc_20 hL ⟨h0, by omega⟩ hg hR hb
    · exact lc_21 hL ⟨h0, by omega⟩ hg hR hb
    · exact lc_22 hL ⟨h0, by omega⟩ hg hR hb
    · exact lc_23 hL ⟨h0, by omega⟩ hg hR hb
    · exact lc_24 hL ⟨h0, by omega⟩ hg hR hb
    · exact lc_25 hL ⟨h0, by omega⟩ hg hR hb
    · exact lc_26 hL ⟨h0, by omega⟩ hg hR hb
    · exact lc_27 hL ⟨h0, by omega⟩ hg hR hb
    · exact hb _ hR
  · refine lw_run k_Lh [(160, [true, true, true, true]), (213, [true, true, true, true]), (236, [true, true, true, true]), (269, [true, true, true, true]), (312, [true, true, true, true]), (335, [true, true, true, true]), (358, [true, true, true, true]), (371, [true, true, true, true]), (384, [true, true, true, true]), (407, [true, true, true, true]), (440, [true, true, true, true]), (473, [true, true, true, true]), (496, [true, true, true, true]), (519, [true, true, true, true]), (532, [true, true, true, true]), (585, [true, true, true, true]), (608, [true, true, true, true]), (631, [true, true, true, true]), (654, [true, true, true, true]), (697, [true, true, true, true]), (710, [true, true, true, true]), (733, [true, true, true, true]), (756, [true, true, true, true]), (779, [true, true, true, true]), (843, [true, true, true, true]), (886, [true, true, true, true]), (909, [true, true, true, true]), (932, [true, true, true, true]), (955, [true, true, true, true])] 600 ?_
    repeat' (first | (refine mj_ite (fun h => ?_) (fun h => ?_) <;> first | (exfalso; omega) | skip) | refine mj_vci (by first | omega | (simp (disch := omega) only [up_ne, up_at, q_up_at, q_up_ne, cp_ne]; omega)) ?_)
    all_goals first | rfl | skip
theorem lw_loop {n L : Nat} {sa : mj_Sa} (hL : L ≤ 384) : ∀ (k : Nat) (i : Int) (σ : mj_W), 0 ≤ i → i ≤ (L : Int) → (L : Int) - i < (k : Int) → q_Rel σ 58 → lw_W (n + 10) sa 18 [some (rV 27 L 0), some (rV 11 0 0), some (rV 12 0 58), some (iV i)] [] σ := by
  intro k
  induction k with
  | zero => intro i σ h0 h1 h2; omega
  | succ k ih =>
    intro i σ h0 h1 h2 hR
    exact lw_head hL h0 h1 hR (fun hi σ2 hR2 => ih (i + 6) σ2 (by omega) hi (by omega) hR2)

