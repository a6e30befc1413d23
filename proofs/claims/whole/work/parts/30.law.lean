theorem kw_849 : Cond.methodLink RL 175 yX6_copy ∈ lw_g := lw_gin 740 (by decide +kernel) (by decide +kernel)
theorem kw_850 : Cond.methodLink RL 178 yX7_copy ∈ lw_g := lw_gin 1140 (by decide +kernel) (by decide +kernel)
theorem kw_851 : Cond.constantLong RL 168 4294967295 ∈ lw_g := lw_gin 1144 (by decide +kernel) (by decide +kernel)
theorem kw_852 : Cond.methodLink RL 170 yX6_item ∈ lw_g := lw_gin 736 (by decide +kernel) (by decide +kernel)
theorem kw_853 : Cond.methodLink RL 174 yX7_item ∈ lw_g := lw_gin 1136 (by decide +kernel) (by decide +kernel)
theorem kw_854 : Cond.methodLink RL 164 yX6_drop ∈ lw_g := lw_gin 732 (by decide +kernel) (by decide +kernel)
theorem kw_855 : Cond.methodLink RL 167 yX7_drop ∈ lw_g := lw_gin 1132 (by decide +kernel) (by decide +kernel)
theorem kw_856 : Cond.methodLink RL 160 yX6_sheet ∈ lw_g := lw_gin 721 (by decide +kernel) (by decide +kernel)
theorem kw_857 : Cond.methodLink RL 163 yX7_sheet ∈ lw_g := lw_gin 1128 (by decide +kernel) (by decide +kernel)
theorem kw_858 : Cond.methodLink RL 155 yX6_film ∈ lw_g := lw_gin 709 (by decide +kernel) (by decide +kernel)
theorem kw_859 : Cond.methodLink RL 159 yX7_film ∈ lw_g := lw_gin 1124 (by decide +kernel) (by decide +kernel)
theorem kw_860 : Cond.methodLink RL 150 yX6_came ∈ lw_g := lw_gin 661 (by decide +kernel) (by decide +kernel)
theorem kw_861 : Cond.methodLink RL 154 yX7_came ∈ lw_g := lw_gin 1094 (by decide +kernel) (by decide +kernel)
theorem kw_862 : Cond.methodLink RL 146 yX6_restore ∈ lw_g := lw_gin 657 (by decide +kernel) (by decide +kernel)
theorem kw_863 : Cond.methodLink RL 149 yX7_restore ∈ lw_g := lw_gin 1090 (by decide +kernel) (by decide +kernel)
theorem kw_864 : Cond.methodLink RL 142 yX6_image ∈ lw_g := lw_gin 649 (by decide +kernel) (by decide +kernel)
theorem kw_865 : Cond.methodLink RL 145 yX7_image ∈ lw_g := lw_gin 1086 (by decide +kernel) (by decide +kernel)
theorem kw_866 : Cond.methodLink RL 138 yX6_likely ∈ lw_g := lw_gin 637 (by decide +kernel) (by decide +kernel)
theorem kw_867 : Cond.methodLink RL 141 yX7_likely ∈ lw_g := lw_gin 1082 (by decide +kernel) (by decide +kernel)
theorem kw_868 : Cond.methodLink RL 134 yX6_telling ∈ lw_g := lw_gin 627 (by decide +kernel) (by decide +kernel)
theorem kw_869 : Cond.methodLink RL 137 yX7_telling ∈ lw_g := lw_gin 1078 (by decide +kernel) (by decide +kernel)
theorem kw_870 : Cond.methodLink RL 130 yX6_shows ∈ lw_g := lw_gin 619 (by decide +kernel) (by decide +kernel)
theorem kw_871 : Cond.methodLink RL 133 yX7_shows ∈ lw_g := lw_gin 1070 (by decide +kernel) (by decide +kernel)
theorem kw_872 : Cond.methodLink RL 126 yX6_reach ∈ lw_g := lw_gin 614 (by decide +kernel) (by decide +kernel)
theorem kw_873 : Cond.methodLink RL 129 yX7_reach ∈ lw_g := lw_gin 1066 (by decide +kernel) (by decide +kernel)
theorem kw_874 : Cond.methodLink RL 121 yX6_way ∈ lw_g := lw_gin 590 (by decide +kernel) (by decide +kernel)
theorem kw_875 : Cond.methodLink RL 125 yX7_way ∈ lw_g := lw_gin 1054 (by decide +kernel) (by decide +kernel)
theorem kw_876 : Cond.methodLink RL 117 yX6_hangs ∈ lw_g := lw_gin 578 (by decide +kernel) (by decide +kernel)
theorem kw_877 : Cond.methodLink RL 120 yX7_hangs ∈ lw_g := lw_gin 1050 (by decide +kernel) (by decide +kernel)
theorem kw_878 : Cond.methodLink RL 113 yX6_pair ∈ lw_g := lw_gin 565 (by decide +kernel) (by decide +kernel)
theorem kw_879 : Cond.methodLink RL 116 yX7_pair ∈ lw_g := lw_gin 1042 (by decide +kernel) (by decide +kernel)
theorem kw_880 : Cond.methodLink RL 109 yX6_alike ∈ lw_g := lw_gin 552 (by decide +kernel) (by decide +kernel)
theorem kw_881 : Cond.methodLink RL 112 yX7_alike ∈ lw_g := lw_gin 1030 (by decide +kernel) (by decide +kernel)
theorem kw_882 : Cond.methodLink RL 105 yX6_odd ∈ lw_g := lw_gin 548 (by decide +kernel) (by decide +kernel)
theorem kw_883 : Cond.methodLink RL 108 yX7_odd ∈ lw_g := lw_gin 1026 (by decide +kernel) (by decide +kernel)
theorem kw_884 : Cond.methodLink RL 101 yX6_order ∈ lw_g := lw_gin 544 (by decide +kernel) (by decide +kernel)
theorem kw_885 : Cond.methodLink RL 104 yX7_order ∈ lw_g := lw_gin 1019 (by decide +kernel) (by decide +kernel)
theorem kw_886 : Cond.methodLink RL 97 yX6_rings ∈ lw_g := lw_gin 521 (by decide +kernel) (by decide +kernel)
theorem kw_887 : Cond.methodLink RL 100 yX7_rings ∈ lw_g := lw_gin 1007 (by decide +kernel) (by decide +kernel)
theorem kw_888 : Cond.methodLink RL 93 yX6_ring ∈ lw_g := lw_gin 516 (by decide +kernel) (by decide +kernel)
theorem kw_889 : Cond.methodLink RL 96 yX7_ring ∈ lw_g := lw_gin 1003 (by decide +kernel) (by decide +kernel)
theorem kw_890 : Cond.methodLink RL 89 yX6_far ∈ lw_g := lw_gin 502 (by decide +kernel) (by decide +kernel)
theorem kw_891 : Cond.methodLink RL 92 yX7_far ∈ lw_g := lw_gin 990 (by decide +kernel) (by decide +kernel)
theorem kw_892 : Cond.methodLink RL 85 yX6_goes ∈ lw_g := lw_gin 490 (by decide +kernel) (by decide +kernel)
theorem kw_893 : Cond.methodLink RL 88 yX7_goes ∈ lw_g := lw_gin 982 (by decide +kernel) (by decide +kernel)
theorem kw_894 : Cond.methodLink RL 81 yX6_seed ∈ lw_g := lw_gin 486 (by decide +kernel) (by decide +kernel)
theorem kw_895 : Cond.methodLink RL 84 yX7_seed ∈ lw_g := lw_gin 978 (by decide +kernel) (by decide +kernel)
theorem kw_896 : Cond.methodLink RL 77 yX6_undo ∈ lw_g := lw_gin 478 (by decide +kernel) (by decide +kernel)
theorem kw_897 : Cond.methodLink RL 80 yX7_undo ∈ lw_g := lw_gin 974 (by decide +kernel) (by decide +kernel)
theorem kw_898 : Cond.methodLink RL 73 yX6_drift ∈ lw_g := lw_gin 464 (by decide +kernel) (by decide +kernel)
theorem kw_899 : Cond.methodLink RL 76 yX7_drift ∈ lw_g := lw_gin 966 (by decide +kernel) (by decide +kernel)
theorem kw_900 : Cond.methodLink RL 69 yX6_move ∈ lw_g := lw_gin 456 (by decide +kernel) (by decide +kernel)
theorem kw_901 : Cond.methodLink RL 72 yX7_move ∈ lw_g := lw_gin 958 (by decide +kernel) (by decide +kernel)
theorem kw_902 : Cond.methodLink RL 65 yX6_heal ∈ lw_g := lw_gin 449 (by decide +kernel) (by decide +kernel)
theorem kw_903 : Cond.methodLink RL 68 yX7_heal ∈ lw_g := lw_gin 954 (by decide +kernel) (by decide +kernel)
theorem kw_904 : Cond.methodLink RL 61 yX6_kill ∈ lw_g := lw_gin 444 (by decide +kernel) (by decide +kernel)
theorem kw_905 : Cond.methodLink RL 64 yX7_kill ∈ lw_g := lw_gin 946 (by decide +kernel) (by decide +kernel)
theorem kw_906 : Cond.methodLink RL 57 yX6_flip ∈ lw_g := lw_gin 432 (by decide +kernel) (by decide +kernel)
theorem kw_907 : Cond.methodLink RL 60 yX7_flip ∈ lw_g := lw_gin 942 (by decide +kernel) (by decide +kernel)
theorem kw_908 : Cond.methodLink RL 53 yX6_home ∈ lw_g := lw_gin 428 (by decide +kernel) (by decide +kernel)
theorem kw_909 : Cond.methodLink RL 56 yX7_home ∈ lw_g := lw_gin 938 (by decide +kernel) (by decide +kernel)
theorem kw_910 : Cond.methodLink RL 49 yX6_back ∈ lw_g := lw_gin 420 (by decide +kernel) (by decide +kernel)
theorem kw_911 : Cond.methodLink RL 52 yX7_back ∈ lw_g := lw_gin 934 (by decide +kernel) (by decide +kernel)
theorem kw_912 : Cond.methodLink RL 45 yX6_step ∈ lw_g := lw_gin 403 (by decide +kernel) (by decide +kernel)
theorem kw_913 : Cond.methodLink RL 48 yX7_step ∈ lw_g := lw_gin 918 (by decide +kernel) (by decide +kernel)
theorem kw_914 : Cond.methodLink RL 41 yX6_count ∈ lw_g := lw_gin 388 (by decide +kernel) (by decide +kernel)
theorem kw_915 : Cond.methodLink RL 44 yX7_count ∈ lw_g := lw_gin 907 (by decide +kernel) (by decide +kernel)
theorem kw_916 : Cond.methodLink RL 36 yX6_circuit ∈ lw_g := lw_gin 330 (by decide +kernel) (by decide +kernel)
theorem kw_917 : Cond.methodLink RL 40 yX7_circuit ∈ lw_g := lw_gin 864 (by decide +kernel) (by decide +kernel)
theorem kw_918 : Cond.methodLink RL 32 yX6_type ∈ lw_g := lw_gin 322 (by decide +kernel) (by decide +kernel)
theorem kw_919 : Cond.methodLink RL 35 yX7_type ∈ lw_g := lw_gin 860 (by decide +kernel) (by decide +kernel)
theorem kw_920 : Cond.methodLink RL 28 yX6_does ∈ lw_g := lw_gin 298 (by decide +kernel) (by decide +kernel)
theorem kw_921 : Cond.methodLink RL 31 yX7_does ∈ lw_g := lw_gin 835 (by decide +kernel) (by decide +kernel)
theorem kw_922 : Cond.methodLink RL 23 yX6_of ∈ lw_g := lw_gin 281 (by decide +kernel) (by decide +kernel)
theorem kw_923 : Cond.methodLink RL 27 yX7_of ∈ lw_g := lw_gin 827 (by decide +kernel) (by decide +kernel)
theorem kw_924 : Cond.methodLink RL 18 yX6_gate ∈ lw_g := lw_gin 261 (by decide +kernel) (by decide +kernel)
theorem kw_925 : Cond.methodLink RL 22 yX7_gate ∈ lw_g := lw_gin 809 (by decide +kernel) (by decide +kernel)
theorem kw_926 : Cond.methodLink RL 13 yX6_wires ∈ lw_g := lw_gin 249 (by decide +kernel) (by decide +kernel)
theorem kw_927 : Cond.methodLink RL 17 yX7_wires ∈ lw_g := lw_gin 798 (by decide +kernel) (by decide +kernel)
def sx_I (len : Nat) (xs : Nat → Int32) (i : Int32) (K : Int32 → Prop) : Prop := vp_in i len ∧ K (xs i.toNatClampNeg)
def sx_N (len : Nat) (K : Int32 → Prop) : Prop := K (Int32.ofNat len)
/-- the script lies outside the world -/
def aw_S (X : aw_X) (p len : Nat) (xs : Nat → Int32) : Prop := match X with
  | (E, pg, ev, R, s, m, args, below, meth, c, kc, ks, Q) => va_X (E.2.2.2.1 p) len xs s s.heap ∧ E.2.2.2.1 p < s.heap.size ∧ ¬ E.2.2.2.2 (E.2.2.2.1 p)
section SLD
variable {X : aw_X} {cc : ByteArray} {own : String} {nL d pc : Nat} {L st : List Value} {h : aw_H}
theorem ow_sld {p len : Nat} {xs : Nat → Int32} {i : Int32} {K : Int32 → Prop} (C : aw_C X cc own nL d) (HX : aw_S X p len xs) (hd : decode cc pc = .ok (.iaload, 1)) (hh : sx_I len xs i K) (kk : ∀ v, K v → Sat X (pc + 1) L (.int v :: st) h) : Sat X pc L (.int i :: .ref p :: st) h := by
  obtain ⟨E, pg, ev, R, s, m, args, below, meth, c, kc, ks, Q⟩ := X
  obtain ⟨hx, hb, hml, hown, hts, hK, hfr, hlo, hkc, hks⟩ := C
  intro ls H locs a b z
  exact va_sld hx hb HX.1 HX.2.1 HX.2.2 z hh.1 hd (kk _ hh.2 ls H locs a b z)
theorem ow_slen {p len : Nat} {xs : Nat → Int32} {K : Int32 → Prop} (C : aw_C X cc own nL d) (HX : aw_S X p len xs) (hd : decode cc pc = .ok (.arraylength, 1)) (hh : sx_N len K) (kk : ∀ v, K v → Sat X (pc + 1) L (.int v :: st) h) : Sat X pc L (.ref p :: st) h := by
  obtain ⟨E, pg, ev, R, s, m, args, below, meth, c, kc, ks, Q⟩ := X
  obtain ⟨hx, hb, hml, hown, hts, hK, hfr, hlo, hkc, hks⟩ := C
  intro ls H locs a b z
  exact va_slen hx hb HX.1 HX.2.1 HX.2.2 z hd (kk _ hh ls H locs a b z)
end SLD
theorem dL_law_0 : decode cL_law 0 = .ok (.new 7, 3) := by decide +kernel
theorem dL_law_3 : decode cL_law 3 = .ok (.dup, 1) := by decide +kernel
theorem dL_law_4 : decode cL_law 4 = .ok (.invokespecial 9, 3) := by decide +kernel
theorem dL_law_7 : decode cL_law 7 = .ok (.astore_n 1, 1) := by decide +kernel
theorem dL_law_8 : decode cL_law 8 = .ok (.new 10, 3) := by decide +kernel
theorem dL_law_11 : decode cL_law 11 = .ok (.dup, 1) := by decide +kernel
theorem dL_law_12 : decode cL_law 12 = .ok (.invokespecial 12, 3) := by decide +kernel
theorem dL_law_15 : decode cL_law 15 = .ok (.astore_n 2, 1) := by decide +kernel
theorem dL_law_16 : decode cL_law 16 = .ok (.iconst 0, 1) := by decide +kernel
theorem dL_law_17 : decode cL_law 17 = .ok (.istore_n 3, 1) := by decide +kernel
theorem dL_law_18 : decode cL_law 18 = .ok (.iload_n 3, 1) := by decide +kernel
theorem dL_law_19 : decode cL_law 19 = .ok (.aload_n 0, 1) := by decide +kernel
theorem dL_law_20 : decode cL_law 20 = .ok (.arraylength, 1) := by decide +kernel
theorem dL_law_21 : decode cL_law 21 = .ok (.bipush 7, 2) := by decide +kernel
theorem dL_law_23 : decode cL_law 23 = .ok (.isub, 1) := by decide +kernel
theorem dL_law_24 : decode cL_law 24 = .ok (.if_icmp .gt 1355, 3) := by decide +kernel
theorem dL_law_27 : decode cL_law 27 = .ok (.aload_n 0, 1) := by decide +kernel
theorem dL_law_28 : decode cL_law 28 = .ok (.iload_n 3, 1) := by decide +kernel
theorem dL_law_29 : decode cL_law 29 = .ok (.iaload, 1) := by decide +kernel
theorem dL_law_30 : decode cL_law 30 = .ok (.bipush 63, 2) := by decide +kernel
theorem dL_law_32 : decode cL_law 32 = .ok (.iand, 1) := by decide +kernel
theorem dL_law_33 : decode cL_law 33 = .ok (.tableswitch 1340 0 38 #[171, 194, 247, 280, 313, 336, 349, 372, 395, 418, 431, 454, 477, 500, 533, 556, 569, 592, 625, 658, 681, 704, 717, 730, 763, 776, 809, 852, 875, 898, 921, 964, 977, 990, 1065, 1128, 1171, 1194, 1277], 171) := by decide +kernel
theorem dL_law_204 : decode cL_law 204 = .ok (.aload_n 1, 1) := by decide +kernel
theorem dL_law_205 : decode cL_law 205 = .ok (.aload_n 0, 1) := by decide +kernel
theorem dL_law_206 : decode cL_law 206 = .ok (.iload_n 3, 1) := by decide +kernel
theorem dL_law_207 : decode cL_law 207 = .ok (.iconst 1, 1) := by decide +kernel
theorem dL_law_208 : decode cL_law 208 = .ok (.iadd, 1) := by decide +kernel
theorem dL_law_209 : decode cL_law 209 = .ok (.iaload, 1) := by decide +kernel
theorem dL_law_210 : decode cL_law 210 = .ok (.invokevirtual 13, 3) := by decide +kernel
theorem dL_law_213 : decode cL_law 213 = .ok (.aload_n 2, 1) := by decide +kernel
theorem dL_law_214 : decode cL_law 214 = .ok (.aload_n 0, 1) := by decide +kernel
theorem dL_law_215 : decode cL_law 215 = .ok (.iload_n 3, 1) := by decide +kernel
theorem dL_law_216 : decode cL_law 216 = .ok (.iconst 1, 1) := by decide +kernel
theorem dL_law_217 : decode cL_law 217 = .ok (.iadd, 1) := by decide +kernel
theorem dL_law_218 : decode cL_law 218 = .ok (.iaload, 1) := by decide +kernel
theorem dL_law_219 : decode cL_law 219 = .ok (.invokevirtual 17, 3) := by decide +kernel
theorem dL_law_222 : decode cL_law 222 = .ok (.if_icmp .eq 1151, 3) := by decide +kernel
theorem dL_law_225 : decode cL_law 225 = .ok (.iconst 0, 1) := by decide +kernel
theorem dL_law_226 : decode cL_law 226 = .ok (.ireturn, 1) := by decide +kernel
theorem dL_law_227 : decode cL_law 227 = .ok (.aload_n 1, 1) := by decide +kernel
theorem dL_law_228 : decode cL_law 228 = .ok (.aload_n 0, 1) := by decide +kernel
theorem dL_law_229 : decode cL_law 229 = .ok (.iload_n 3, 1) := by decide +kernel
theorem dL_law_230 : decode cL_law 230 = .ok (.iconst 1, 1) := by decide +kernel
theorem dL_law_231 : decode cL_law 231 = .ok (.iadd, 1) := by decide +kernel
theorem dL_law_232 : decode cL_law 232 = .ok (.iaload, 1) := by decide +kernel
theorem dL_law_233 : decode cL_law 233 = .ok (.aload_n 0, 1) := by decide +kernel
theorem dL_law_234 : decode cL_law 234 = .ok (.iload_n 3, 1) := by decide +kernel
theorem dL_law_235 : decode cL_law 235 = .ok (.iconst 2, 1) := by decide +kernel
theorem dL_law_236 : decode cL_law 236 = .ok (.iadd, 1) := by decide +kernel
theorem dL_law_237 : decode cL_law 237 = .ok (.iaload, 1) := by decide +kernel
theorem dL_law_238 : decode cL_law 238 = .ok (.aload_n 0, 1) := by decide +kernel
theorem dL_law_239 : decode cL_law 239 = .ok (.iload_n 3, 1) := by decide +kernel
theorem dL_law_240 : decode cL_law 240 = .ok (.iconst 3, 1) := by decide +kernel
theorem dL_law_241 : decode cL_law 241 = .ok (.iadd, 1) := by decide +kernel
theorem dL_law_242 : decode cL_law 242 = .ok (.iaload, 1) := by decide +kernel
theorem dL_law_243 : decode cL_law 243 = .ok (.aload_n 0, 1) := by decide +kernel
theorem dL_law_244 : decode cL_law 244 = .ok (.iload_n 3, 1) := by decide +kernel
theorem dL_law_245 : decode cL_law 245 = .ok (.iconst 4, 1) := by decide +kernel
theorem dL_law_246 : decode cL_law 246 = .ok (.iadd, 1) := by decide +kernel
theorem dL_law_247 : decode cL_law 247 = .ok (.iaload, 1) := by decide +kernel
theorem dL_law_248 : decode cL_law 248 = .ok (.invokevirtual 18, 3) := by decide +kernel
theorem dL_law_251 : decode cL_law 251 = .ok (.aload_n 2, 1) := by decide +kernel
theorem dL_law_252 : decode cL_law 252 = .ok (.aload_n 0, 1) := by decide +kernel
theorem dL_law_253 : decode cL_law 253 = .ok (.iload_n 3, 1) := by decide +kernel
theorem dL_law_254 : decode cL_law 254 = .ok (.iconst 1, 1) := by decide +kernel
theorem dL_law_255 : decode cL_law 255 = .ok (.iadd, 1) := by decide +kernel
theorem dL_law_256 : decode cL_law 256 = .ok (.iaload, 1) := by decide +kernel
theorem dL_law_257 : decode cL_law 257 = .ok (.aload_n 0, 1) := by decide +kernel
theorem dL_law_258 : decode cL_law 258 = .ok (.iload_n 3, 1) := by decide +kernel
theorem dL_law_259 : decode cL_law 259 = .ok (.iconst 2, 1) := by decide +kernel
theorem dL_law_260 : decode cL_law 260 = .ok (.iadd, 1) := by decide +kernel
theorem dL_law_261 : decode cL_law 261 = .ok (.iaload, 1) := by decide +kernel
theorem dL_law_262 : decode cL_law 262 = .ok (.aload_n 0, 1) := by decide +kernel
theorem dL_law_263 : decode cL_law 263 = .ok (.iload_n 3, 1) := by decide +kernel
theorem dL_law_264 : decode cL_law 264 = .ok (.iconst 3, 1) := by decide +kernel
theorem dL_law_265 : decode cL_law 265 = .ok (.iadd, 1) := by decide +kernel
theorem dL_law_266 : decode cL_law 266 = .ok (.iaload, 1) := by decide +kernel
theorem dL_law_267 : decode cL_law 267 = .ok (.aload_n 0, 1) := by decide +kernel
theorem dL_law_268 : decode cL_law 268 = .ok (.iload_n 3, 1) := by decide +kernel
theorem dL_law_269 : decode cL_law 269 = .ok (.iconst 4, 1) := by decide +kernel
theorem dL_law_270 : decode cL_law 270 = .ok (.iadd, 1) := by decide +kernel
theorem dL_law_271 : decode cL_law 271 = .ok (.iaload, 1) := by decide +kernel
theorem dL_law_272 : decode cL_law 272 = .ok (.invokevirtual 22, 3) := by decide +kernel
theorem dL_law_275 : decode cL_law 275 = .ok (.if_icmp .eq 1098, 3) := by decide +kernel
theorem dL_law_278 : decode cL_law 278 = .ok (.iconst 0, 1) := by decide +kernel
theorem dL_law_279 : decode cL_law 279 = .ok (.ireturn, 1) := by decide +kernel
theorem dL_law_280 : decode cL_law 280 = .ok (.aload_n 1, 1) := by decide +kernel
theorem dL_law_281 : decode cL_law 281 = .ok (.aload_n 0, 1) := by decide +kernel
theorem dL_law_282 : decode cL_law 282 = .ok (.iload_n 3, 1) := by decide +kernel
theorem dL_law_283 : decode cL_law 283 = .ok (.iconst 1, 1) := by decide +kernel
theorem dL_law_284 : decode cL_law 284 = .ok (.iadd, 1) := by decide +kernel
theorem dL_law_285 : decode cL_law 285 = .ok (.iaload, 1) := by decide +kernel
theorem dL_law_286 : decode cL_law 286 = .ok (.aload_n 0, 1) := by decide +kernel
theorem dL_law_287 : decode cL_law 287 = .ok (.iload_n 3, 1) := by decide +kernel
theorem dL_law_288 : decode cL_law 288 = .ok (.iconst 2, 1) := by decide +kernel
theorem dL_law_289 : decode cL_law 289 = .ok (.iadd, 1) := by decide +kernel
theorem dL_law_290 : decode cL_law 290 = .ok (.iaload, 1) := by decide +kernel
theorem dL_law_291 : decode cL_law 291 = .ok (.invokevirtual 23, 3) := by decide +kernel
theorem dL_law_294 : decode cL_law 294 = .ok (.aload_n 2, 1) := by decide +kernel
theorem dL_law_295 : decode cL_law 295 = .ok (.aload_n 0, 1) := by decide +kernel
theorem dL_law_296 : decode cL_law 296 = .ok (.iload_n 3, 1) := by decide +kernel
theorem dL_law_297 : decode cL_law 297 = .ok (.iconst 1, 1) := by decide +kernel
theorem dL_law_298 : decode cL_law 298 = .ok (.iadd, 1) := by decide +kernel
theorem dL_law_299 : decode cL_law 299 = .ok (.iaload, 1) := by decide +kernel
theorem dL_law_300 : decode cL_law 300 = .ok (.aload_n 0, 1) := by decide +kernel
theorem dL_law_301 : decode cL_law 301 = .ok (.iload_n 3, 1) := by decide +kernel
theorem dL_law_302 : decode cL_law 302 = .ok (.iconst 2, 1) := by decide +kernel
theorem dL_law_303 : decode cL_law 303 = .ok (.iadd, 1) := by decide +kernel
theorem dL_law_304 : decode cL_law 304 = .ok (.iaload, 1) := by decide +kernel
theorem dL_law_305 : decode cL_law 305 = .ok (.invokevirtual 27, 3) := by decide +kernel
theorem dL_law_308 : decode cL_law 308 = .ok (.if_icmp .eq 1065, 3) := by decide +kernel
theorem dL_law_311 : decode cL_law 311 = .ok (.iconst 0, 1) := by decide +kernel
theorem dL_law_312 : decode cL_law 312 = .ok (.ireturn, 1) := by decide +kernel
theorem dL_law_313 : decode cL_law 313 = .ok (.aload_n 1, 1) := by decide +kernel
theorem dL_law_314 : decode cL_law 314 = .ok (.aload_n 0, 1) := by decide +kernel
theorem dL_law_315 : decode cL_law 315 = .ok (.iload_n 3, 1) := by decide +kernel
theorem dL_law_316 : decode cL_law 316 = .ok (.iconst 1, 1) := by decide +kernel
theorem dL_law_317 : decode cL_law 317 = .ok (.iadd, 1) := by decide +kernel
theorem dL_law_318 : decode cL_law 318 = .ok (.iaload, 1) := by decide +kernel
theorem dL_law_319 : decode cL_law 319 = .ok (.aload_n 0, 1) := by decide +kernel
theorem dL_law_320 : decode cL_law 320 = .ok (.iload_n 3, 1) := by decide +kernel
theorem dL_law_321 : decode cL_law 321 = .ok (.iconst 2, 1) := by decide +kernel
theorem dL_law_322 : decode cL_law 322 = .ok (.iadd, 1) := by decide +kernel
theorem dL_law_323 : decode cL_law 323 = .ok (.iaload, 1) := by decide +kernel
theorem dL_law_324 : decode cL_law 324 = .ok (.invokevirtual 28, 3) := by decide +kernel
theorem dL_law_327 : decode cL_law 327 = .ok (.aload_n 2, 1) := by decide +kernel
theorem dL_law_328 : decode cL_law 328 = .ok (.aload_n 0, 1) := by decide +kernel
theorem dL_law_329 : decode cL_law 329 = .ok (.iload_n 3, 1) := by decide +kernel
theorem dL_law_330 : decode cL_law 330 = .ok (.iconst 1, 1) := by decide +kernel
theorem dL_law_331 : decode cL_law 331 = .ok (.iadd, 1) := by decide +kernel
theorem dL_law_332 : decode cL_law 332 = .ok (.iaload, 1) := by decide +kernel
theorem dL_law_333 : decode cL_law 333 = .ok (.aload_n 0, 1) := by decide +kernel
theorem dL_law_334 : decode cL_law 334 = .ok (.iload_n 3, 1) := by decide +kernel
theorem dL_law_335 : decode cL_law 335 = .ok (.iconst 2, 1) := by decide +kernel
theorem dL_law_336 : decode cL_law 336 = .ok (.iadd, 1) := by decide +kernel
theorem dL_law_337 : decode cL_law 337 = .ok (.iaload, 1) := by decide +kernel
theorem dL_law_338 : decode cL_law 338 = .ok (.invokevirtual 31, 3) := by decide +kernel
theorem dL_law_341 : decode cL_law 341 = .ok (.if_icmp .eq 1032, 3) := by decide +kernel
theorem dL_law_344 : decode cL_law 344 = .ok (.iconst 0, 1) := by decide +kernel
theorem dL_law_345 : decode cL_law 345 = .ok (.ireturn, 1) := by decide +kernel
theorem dL_law_346 : decode cL_law 346 = .ok (.aload_n 1, 1) := by decide +kernel
theorem dL_law_347 : decode cL_law 347 = .ok (.aload_n 0, 1) := by decide +kernel
theorem dL_law_348 : decode cL_law 348 = .ok (.iload_n 3, 1) := by decide +kernel
theorem dL_law_349 : decode cL_law 349 = .ok (.iconst 1, 1) := by decide +kernel
theorem dL_law_350 : decode cL_law 350 = .ok (.iadd, 1) := by decide +kernel
theorem dL_law_351 : decode cL_law 351 = .ok (.iaload, 1) := by decide +kernel
theorem dL_law_352 : decode cL_law 352 = .ok (.invokevirtual 32, 3) := by decide +kernel
theorem dL_law_355 : decode cL_law 355 = .ok (.aload_n 2, 1) := by decide +kernel
theorem dL_law_356 : decode cL_law 356 = .ok (.aload_n 0, 1) := by decide +kernel
theorem dL_law_357 : decode cL_law 357 = .ok (.iload_n 3, 1) := by decide +kernel
theorem dL_law_358 : decode cL_law 358 = .ok (.iconst 1, 1) := by decide +kernel
theorem dL_law_359 : decode cL_law 359 = .ok (.iadd, 1) := by decide +kernel
theorem dL_law_360 : decode cL_law 360 = .ok (.iaload, 1) := by decide +kernel
theorem dL_law_361 : decode cL_law 361 = .ok (.invokevirtual 35, 3) := by decide +kernel
theorem dL_law_364 : decode cL_law 364 = .ok (.if_icmp .eq 1009, 3) := by decide +kernel
theorem dL_law_367 : decode cL_law 367 = .ok (.iconst 0, 1) := by decide +kernel
theorem dL_law_368 : decode cL_law 368 = .ok (.ireturn, 1) := by decide +kernel
theorem dL_law_369 : decode cL_law 369 = .ok (.aload_n 1, 1) := by decide +kernel
theorem dL_law_370 : decode cL_law 370 = .ok (.invokevirtual 36, 3) := by decide +kernel
theorem dL_law_373 : decode cL_law 373 = .ok (.aload_n 2, 1) := by decide +kernel
theorem dL_law_374 : decode cL_law 374 = .ok (.invokevirtual 40, 3) := by decide +kernel
theorem dL_law_377 : decode cL_law 377 = .ok (.if_icmp .eq 996, 3) := by decide +kernel
theorem dL_law_380 : decode cL_law 380 = .ok (.iconst 0, 1) := by decide +kernel
theorem dL_law_381 : decode cL_law 381 = .ok (.ireturn, 1) := by decide +kernel
theorem dL_law_382 : decode cL_law 382 = .ok (.aload_n 1, 1) := by decide +kernel
theorem dL_law_383 : decode cL_law 383 = .ok (.aload_n 0, 1) := by decide +kernel
theorem dL_law_384 : decode cL_law 384 = .ok (.iload_n 3, 1) := by decide +kernel
theorem dL_law_385 : decode cL_law 385 = .ok (.iconst 1, 1) := by decide +kernel
theorem dL_law_386 : decode cL_law 386 = .ok (.iadd, 1) := by decide +kernel
theorem dL_law_387 : decode cL_law 387 = .ok (.iaload, 1) := by decide +kernel
theorem dL_law_388 : decode cL_law 388 = .ok (.invokevirtual 41, 3) := by decide +kernel
theorem dL_law_391 : decode cL_law 391 = .ok (.aload_n 2, 1) := by decide +kernel
theorem dL_law_392 : decode cL_law 392 = .ok (.aload_n 0, 1) := by decide +kernel
theorem dL_law_393 : decode cL_law 393 = .ok (.iload_n 3, 1) := by decide +kernel
theorem dL_law_394 : decode cL_law 394 = .ok (.iconst 1, 1) := by decide +kernel
theorem dL_law_395 : decode cL_law 395 = .ok (.iadd, 1) := by decide +kernel
theorem dL_law_396 : decode cL_law 396 = .ok (.iaload, 1) := by decide +kernel
theorem dL_law_397 : decode cL_law 397 = .ok (.invokevirtual 44, 3) := by decide +kernel
theorem dL_law_400 : decode cL_law 400 = .ok (.if_icmp .eq 973, 3) := by decide +kernel
theorem dL_law_403 : decode cL_law 403 = .ok (.iconst 0, 1) := by decide +kernel
theorem dL_law_404 : decode cL_law 404 = .ok (.ireturn, 1) := by decide +kernel
theorem dL_law_405 : decode cL_law 405 = .ok (.aload_n 1, 1) := by decide +kernel
theorem dL_law_406 : decode cL_law 406 = .ok (.aload_n 0, 1) := by decide +kernel
theorem dL_law_407 : decode cL_law 407 = .ok (.iload_n 3, 1) := by decide +kernel
theorem dL_law_408 : decode cL_law 408 = .ok (.iconst 1, 1) := by decide +kernel
theorem dL_law_409 : decode cL_law 409 = .ok (.iadd, 1) := by decide +kernel
theorem dL_law_410 : decode cL_law 410 = .ok (.iaload, 1) := by decide +kernel
theorem dL_law_411 : decode cL_law 411 = .ok (.invokevirtual 45, 3) := by decide +kernel
theorem dL_law_414 : decode cL_law 414 = .ok (.aload_n 2, 1) := by decide +kernel
theorem dL_law_415 : decode cL_law 415 = .ok (.aload_n 0, 1) := by decide +kernel
theorem dL_law_416 : decode cL_law 416 = .ok (.iload_n 3, 1) := by decide +kernel
theorem dL_law_417 : decode cL_law 417 = .ok (.iconst 1, 1) := by decide +kernel
theorem dL_law_418 : decode cL_law 418 = .ok (.iadd, 1) := by decide +kernel
theorem dL_law_419 : decode cL_law 419 = .ok (.iaload, 1) := by decide +kernel
theorem dL_law_420 : decode cL_law 420 = .ok (.invokevirtual 48, 3) := by decide +kernel
theorem dL_law_423 : decode cL_law 423 = .ok (.if_icmp .eq 950, 3) := by decide +kernel
theorem dL_law_426 : decode cL_law 426 = .ok (.iconst 0, 1) := by decide +kernel
theorem dL_law_427 : decode cL_law 427 = .ok (.ireturn, 1) := by decide +kernel
theorem dL_law_428 : decode cL_law 428 = .ok (.aload_n 1, 1) := by decide +kernel
theorem dL_law_429 : decode cL_law 429 = .ok (.aload_n 0, 1) := by decide +kernel
theorem dL_law_430 : decode cL_law 430 = .ok (.iload_n 3, 1) := by decide +kernel
theorem dL_law_431 : decode cL_law 431 = .ok (.iconst 1, 1) := by decide +kernel
theorem dL_law_432 : decode cL_law 432 = .ok (.iadd, 1) := by decide +kernel
theorem dL_law_433 : decode cL_law 433 = .ok (.iaload, 1) := by decide +kernel
theorem dL_law_434 : decode cL_law 434 = .ok (.invokevirtual 49, 3) := by decide +kernel
theorem dL_law_437 : decode cL_law 437 = .ok (.aload_n 2, 1) := by decide +kernel
theorem dL_law_438 : decode cL_law 438 = .ok (.aload_n 0, 1) := by decide +kernel
theorem dL_law_439 : decode cL_law 439 = .ok (.iload_n 3, 1) := by decide +kernel
theorem dL_law_440 : decode cL_law 440 = .ok (.iconst 1, 1) := by decide +kernel
theorem dL_law_441 : decode cL_law 441 = .ok (.iadd, 1) := by decide +kernel
theorem dL_law_442 : decode cL_law 442 = .ok (.iaload, 1) := by decide +kernel
theorem dL_law_443 : decode cL_law 443 = .ok (.invokevirtual 52, 3) := by decide +kernel
theorem dL_law_446 : decode cL_law 446 = .ok (.if_icmp .eq 927, 3) := by decide +kernel
theorem dL_law_449 : decode cL_law 449 = .ok (.iconst 0, 1) := by decide +kernel
theorem dL_law_450 : decode cL_law 450 = .ok (.ireturn, 1) := by decide +kernel
theorem dL_law_451 : decode cL_law 451 = .ok (.aload_n 1, 1) := by decide +kernel
theorem dL_law_452 : decode cL_law 452 = .ok (.invokevirtual 53, 3) := by decide +kernel
theorem dL_law_455 : decode cL_law 455 = .ok (.aload_n 2, 1) := by decide +kernel
theorem dL_law_456 : decode cL_law 456 = .ok (.invokevirtual 56, 3) := by decide +kernel
theorem dL_law_459 : decode cL_law 459 = .ok (.if_icmp .eq 914, 3) := by decide +kernel
theorem dL_law_462 : decode cL_law 462 = .ok (.iconst 0, 1) := by decide +kernel
theorem dL_law_463 : decode cL_law 463 = .ok (.ireturn, 1) := by decide +kernel
theorem dL_law_464 : decode cL_law 464 = .ok (.aload_n 1, 1) := by decide +kernel
theorem dL_law_465 : decode cL_law 465 = .ok (.aload_n 0, 1) := by decide +kernel
theorem dL_law_466 : decode cL_law 466 = .ok (.iload_n 3, 1) := by decide +kernel
theorem dL_law_467 : decode cL_law 467 = .ok (.iconst 1, 1) := by decide +kernel
theorem dL_law_468 : decode cL_law 468 = .ok (.iadd, 1) := by decide +kernel
theorem dL_law_469 : decode cL_law 469 = .ok (.iaload, 1) := by decide +kernel
theorem dL_law_470 : decode cL_law 470 = .ok (.invokevirtual 57, 3) := by decide +kernel
theorem dL_law_473 : decode cL_law 473 = .ok (.aload_n 2, 1) := by decide +kernel
theorem dL_law_474 : decode cL_law 474 = .ok (.aload_n 0, 1) := by decide +kernel
theorem dL_law_475 : decode cL_law 475 = .ok (.iload_n 3, 1) := by decide +kernel
theorem dL_law_476 : decode cL_law 476 = .ok (.iconst 1, 1) := by decide +kernel
theorem dL_law_477 : decode cL_law 477 = .ok (.iadd, 1) := by decide +kernel
theorem dL_law_478 : decode cL_law 478 = .ok (.iaload, 1) := by decide +kernel
theorem dL_law_479 : decode cL_law 479 = .ok (.invokevirtual 60, 3) := by decide +kernel
theorem dL_law_482 : decode cL_law 482 = .ok (.if_icmp .eq 891, 3) := by decide +kernel
theorem dL_law_485 : decode cL_law 485 = .ok (.iconst 0, 1) := by decide +kernel
theorem dL_law_486 : decode cL_law 486 = .ok (.ireturn, 1) := by decide +kernel
theorem dL_law_487 : decode cL_law 487 = .ok (.aload_n 1, 1) := by decide +kernel
theorem dL_law_488 : decode cL_law 488 = .ok (.aload_n 0, 1) := by decide +kernel
theorem dL_law_489 : decode cL_law 489 = .ok (.iload_n 3, 1) := by decide +kernel
theorem dL_law_490 : decode cL_law 490 = .ok (.iconst 1, 1) := by decide +kernel
theorem dL_law_491 : decode cL_law 491 = .ok (.iadd, 1) := by decide +kernel
theorem dL_law_492 : decode cL_law 492 = .ok (.iaload, 1) := by decide +kernel
theorem dL_law_493 : decode cL_law 493 = .ok (.invokevirtual 61, 3) := by decide +kernel
theorem dL_law_496 : decode cL_law 496 = .ok (.aload_n 2, 1) := by decide +kernel
theorem dL_law_497 : decode cL_law 497 = .ok (.aload_n 0, 1) := by decide +kernel
theorem dL_law_498 : decode cL_law 498 = .ok (.iload_n 3, 1) := by decide +kernel
theorem dL_law_499 : decode cL_law 499 = .ok (.iconst 1, 1) := by decide +kernel
theorem dL_law_500 : decode cL_law 500 = .ok (.iadd, 1) := by decide +kernel
theorem dL_law_501 : decode cL_law 501 = .ok (.iaload, 1) := by decide +kernel
theorem dL_law_502 : decode cL_law 502 = .ok (.invokevirtual 64, 3) := by decide +kernel
theorem dL_law_505 : decode cL_law 505 = .ok (.if_icmp .eq 868, 3) := by decide +kernel
theorem dL_law_508 : decode cL_law 508 = .ok (.iconst 0, 1) := by decide +kernel
theorem dL_law_509 : decode cL_law 509 = .ok (.ireturn, 1) := by decide +kernel
theorem dL_law_510 : decode cL_law 510 = .ok (.aload_n 1, 1) := by decide +kernel
theorem dL_law_511 : decode cL_law 511 = .ok (.aload_n 0, 1) := by decide +kernel
theorem dL_law_512 : decode cL_law 512 = .ok (.iload_n 3, 1) := by decide +kernel
theorem dL_law_513 : decode cL_law 513 = .ok (.iconst 1, 1) := by decide +kernel
theorem dL_law_514 : decode cL_law 514 = .ok (.iadd, 1) := by decide +kernel
theorem dL_law_515 : decode cL_law 515 = .ok (.iaload, 1) := by decide +kernel
theorem dL_law_516 : decode cL_law 516 = .ok (.invokevirtual 65, 3) := by decide +kernel
theorem dL_law_519 : decode cL_law 519 = .ok (.aload_n 2, 1) := by decide +kernel
theorem dL_law_520 : decode cL_law 520 = .ok (.aload_n 0, 1) := by decide +kernel
theorem dL_law_521 : decode cL_law 521 = .ok (.iload_n 3, 1) := by decide +kernel
theorem dL_law_522 : decode cL_law 522 = .ok (.iconst 1, 1) := by decide +kernel
theorem dL_law_523 : decode cL_law 523 = .ok (.iadd, 1) := by decide +kernel
theorem dL_law_524 : decode cL_law 524 = .ok (.iaload, 1) := by decide +kernel
theorem dL_law_525 : decode cL_law 525 = .ok (.invokevirtual 68, 3) := by decide +kernel
theorem dL_law_528 : decode cL_law 528 = .ok (.if_icmp .eq 845, 3) := by decide +kernel
theorem dL_law_531 : decode cL_law 531 = .ok (.iconst 0, 1) := by decide +kernel
theorem dL_law_532 : decode cL_law 532 = .ok (.ireturn, 1) := by decide +kernel
theorem dL_law_533 : decode cL_law 533 = .ok (.aload_n 1, 1) := by decide +kernel
theorem dL_law_534 : decode cL_law 534 = .ok (.aload_n 0, 1) := by decide +kernel
theorem dL_law_535 : decode cL_law 535 = .ok (.iload_n 3, 1) := by decide +kernel
theorem dL_law_536 : decode cL_law 536 = .ok (.iconst 1, 1) := by decide +kernel
theorem dL_law_537 : decode cL_law 537 = .ok (.iadd, 1) := by decide +kernel
theorem dL_law_538 : decode cL_law 538 = .ok (.iaload, 1) := by decide +kernel
theorem dL_law_539 : decode cL_law 539 = .ok (.aload_n 0, 1) := by decide +kernel
theorem dL_law_540 : decode cL_law 540 = .ok (.iload_n 3, 1) := by decide +kernel
theorem dL_law_541 : decode cL_law 541 = .ok (.iconst 2, 1) := by decide +kernel
theorem dL_law_542 : decode cL_law 542 = .ok (.iadd, 1) := by decide +kernel
theorem dL_law_543 : decode cL_law 543 = .ok (.iaload, 1) := by decide +kernel
theorem dL_law_544 : decode cL_law 544 = .ok (.invokevirtual 69, 3) := by decide +kernel
theorem dL_law_547 : decode cL_law 547 = .ok (.aload_n 2, 1) := by decide +kernel
theorem dL_law_548 : decode cL_law 548 = .ok (.aload_n 0, 1) := by decide +kernel
theorem dL_law_549 : decode cL_law 549 = .ok (.iload_n 3, 1) := by decide +kernel
theorem dL_law_550 : decode cL_law 550 = .ok (.iconst 1, 1) := by decide +kernel
theorem dL_law_551 : decode cL_law 551 = .ok (.iadd, 1) := by decide +kernel
theorem dL_law_552 : decode cL_law 552 = .ok (.iaload, 1) := by decide +kernel
theorem dL_law_553 : decode cL_law 553 = .ok (.aload_n 0, 1) := by decide +kernel
theorem dL_law_554 : decode cL_law 554 = .ok (.iload_n 3, 1) := by decide +kernel
theorem dL_law_555 : decode cL_law 555 = .ok (.iconst 2, 1) := by decide +kernel
theorem dL_law_556 : decode cL_law 556 = .ok (.iadd, 1) := by decide +kernel
theorem dL_law_557 : decode cL_law 557 = .ok (.iaload, 1) := by decide +kernel
theorem dL_law_558 : decode cL_law 558 = .ok (.invokevirtual 72, 3) := by decide +kernel
theorem dL_law_561 : decode cL_law 561 = .ok (.if_icmp .eq 812, 3) := by decide +kernel
theorem dL_law_564 : decode cL_law 564 = .ok (.iconst 0, 1) := by decide +kernel
theorem dL_law_565 : decode cL_law 565 = .ok (.ireturn, 1) := by decide +kernel
theorem dL_law_566 : decode cL_law 566 = .ok (.aload_n 1, 1) := by decide +kernel
theorem dL_law_567 : decode cL_law 567 = .ok (.aload_n 0, 1) := by decide +kernel
theorem dL_law_568 : decode cL_law 568 = .ok (.iload_n 3, 1) := by decide +kernel
theorem dL_law_569 : decode cL_law 569 = .ok (.iconst 1, 1) := by decide +kernel
theorem dL_law_570 : decode cL_law 570 = .ok (.iadd, 1) := by decide +kernel
theorem dL_law_571 : decode cL_law 571 = .ok (.iaload, 1) := by decide +kernel
theorem dL_law_572 : decode cL_law 572 = .ok (.invokevirtual 73, 3) := by decide +kernel
theorem dL_law_575 : decode cL_law 575 = .ok (.aload_n 2, 1) := by decide +kernel
theorem dL_law_576 : decode cL_law 576 = .ok (.aload_n 0, 1) := by decide +kernel
theorem dL_law_577 : decode cL_law 577 = .ok (.iload_n 3, 1) := by decide +kernel
theorem dL_law_578 : decode cL_law 578 = .ok (.iconst 1, 1) := by decide +kernel
theorem dL_law_579 : decode cL_law 579 = .ok (.iadd, 1) := by decide +kernel
theorem dL_law_580 : decode cL_law 580 = .ok (.iaload, 1) := by decide +kernel
theorem dL_law_581 : decode cL_law 581 = .ok (.invokevirtual 76, 3) := by decide +kernel
theorem dL_law_584 : decode cL_law 584 = .ok (.if_icmp .eq 789, 3) := by decide +kernel
theorem dL_law_587 : decode cL_law 587 = .ok (.iconst 0, 1) := by decide +kernel
theorem dL_law_588 : decode cL_law 588 = .ok (.ireturn, 1) := by decide +kernel
theorem dL_law_589 : decode cL_law 589 = .ok (.aload_n 1, 1) := by decide +kernel
theorem dL_law_590 : decode cL_law 590 = .ok (.invokevirtual 77, 3) := by decide +kernel
theorem dL_law_593 : decode cL_law 593 = .ok (.aload_n 2, 1) := by decide +kernel
theorem dL_law_594 : decode cL_law 594 = .ok (.invokevirtual 80, 3) := by decide +kernel
theorem dL_law_597 : decode cL_law 597 = .ok (.if_icmp .eq 776, 3) := by decide +kernel
theorem dL_law_600 : decode cL_law 600 = .ok (.iconst 0, 1) := by decide +kernel
theorem dL_law_601 : decode cL_law 601 = .ok (.ireturn, 1) := by decide +kernel
theorem dL_law_602 : decode cL_law 602 = .ok (.aload_n 1, 1) := by decide +kernel
theorem dL_law_603 : decode cL_law 603 = .ok (.aload_n 0, 1) := by decide +kernel
theorem dL_law_604 : decode cL_law 604 = .ok (.iload_n 3, 1) := by decide +kernel
theorem dL_law_605 : decode cL_law 605 = .ok (.iconst 1, 1) := by decide +kernel
theorem dL_law_606 : decode cL_law 606 = .ok (.iadd, 1) := by decide +kernel
theorem dL_law_607 : decode cL_law 607 = .ok (.iaload, 1) := by decide +kernel
theorem dL_law_608 : decode cL_law 608 = .ok (.invokevirtual 81, 3) := by decide +kernel
theorem dL_law_611 : decode cL_law 611 = .ok (.aload_n 2, 1) := by decide +kernel
theorem dL_law_612 : decode cL_law 612 = .ok (.aload_n 0, 1) := by decide +kernel
theorem dL_law_613 : decode cL_law 613 = .ok (.iload_n 3, 1) := by decide +kernel
theorem dL_law_614 : decode cL_law 614 = .ok (.iconst 1, 1) := by decide +kernel
theorem dL_law_615 : decode cL_law 615 = .ok (.iadd, 1) := by decide +kernel
theorem dL_law_616 : decode cL_law 616 = .ok (.iaload, 1) := by decide +kernel
theorem dL_law_617 : decode cL_law 617 = .ok (.invokevirtual 84, 3) := by decide +kernel
theorem dL_law_620 : decode cL_law 620 = .ok (.if_icmp .eq 753, 3) := by decide +kernel
theorem dL_law_623 : decode cL_law 623 = .ok (.iconst 0, 1) := by decide +kernel
theorem dL_law_624 : decode cL_law 624 = .ok (.ireturn, 1) := by decide +kernel
theorem dL_law_625 : decode cL_law 625 = .ok (.aload_n 1, 1) := by decide +kernel
theorem dL_law_626 : decode cL_law 626 = .ok (.aload_n 0, 1) := by decide +kernel
theorem dL_law_627 : decode cL_law 627 = .ok (.iload_n 3, 1) := by decide +kernel
theorem dL_law_628 : decode cL_law 628 = .ok (.iconst 1, 1) := by decide +kernel
theorem dL_law_629 : decode cL_law 629 = .ok (.iadd, 1) := by decide +kernel
theorem dL_law_630 : decode cL_law 630 = .ok (.iaload, 1) := by decide +kernel
theorem dL_law_631 : decode cL_law 631 = .ok (.aload_n 0, 1) := by decide +kernel
theorem dL_law_632 : decode cL_law 632 = .ok (.iload_n 3, 1) := by decide +kernel
theorem dL_law_633 : decode cL_law 633 = .ok (.iconst 2, 1) := by decide +kernel
theorem dL_law_634 : decode cL_law 634 = .ok (.iadd, 1) := by decide +kernel
theorem dL_law_635 : decode cL_law 635 = .ok (.iaload, 1) := by decide +kernel
theorem dL_law_636 : decode cL_law 636 = .ok (.invokevirtual 85, 3) := by decide +kernel
theorem dL_law_639 : decode cL_law 639 = .ok (.aload_n 2, 1) := by decide +kernel
theorem dL_law_640 : decode cL_law 640 = .ok (.aload_n 0, 1) := by decide +kernel
theorem dL_law_641 : decode cL_law 641 = .ok (.iload_n 3, 1) := by decide +kernel
theorem dL_law_642 : decode cL_law 642 = .ok (.iconst 1, 1) := by decide +kernel
theorem dL_law_643 : decode cL_law 643 = .ok (.iadd, 1) := by decide +kernel
theorem dL_law_644 : decode cL_law 644 = .ok (.iaload, 1) := by decide +kernel
theorem dL_law_645 : decode cL_law 645 = .ok (.aload_n 0, 1) := by decide +kernel
theorem dL_law_646 : decode cL_law 646 = .ok (.iload_n 3, 1) := by decide +kernel
theorem dL_law_647 : decode cL_law 647 = .ok (.iconst 2, 1) := by decide +kernel
theorem dL_law_648 : decode cL_law 648 = .ok (.iadd, 1) := by decide +kernel
theorem dL_law_649 : decode cL_law 649 = .ok (.iaload, 1) := by decide +kernel
theorem dL_law_650 : decode cL_law 650 = .ok (.invokevirtual 88, 3) := by decide +kernel
theorem dL_law_653 : decode cL_law 653 = .ok (.if_icmp .eq 720, 3) := by decide +kernel
theorem dL_law_656 : decode cL_law 656 = .ok (.iconst 0, 1) := by decide +kernel
theorem dL_law_657 : decode cL_law 657 = .ok (.ireturn, 1) := by decide +kernel
theorem dL_law_658 : decode cL_law 658 = .ok (.aload_n 1, 1) := by decide +kernel
theorem dL_law_659 : decode cL_law 659 = .ok (.aload_n 0, 1) := by decide +kernel
theorem dL_law_660 : decode cL_law 660 = .ok (.iload_n 3, 1) := by decide +kernel
theorem dL_law_661 : decode cL_law 661 = .ok (.iconst 1, 1) := by decide +kernel
theorem dL_law_662 : decode cL_law 662 = .ok (.iadd, 1) := by decide +kernel
theorem dL_law_663 : decode cL_law 663 = .ok (.iaload, 1) := by decide +kernel
theorem dL_law_664 : decode cL_law 664 = .ok (.aload_n 0, 1) := by decide +kernel
theorem dL_law_665 : decode cL_law 665 = .ok (.iload_n 3, 1) := by decide +kernel
theorem dL_law_666 : decode cL_law 666 = .ok (.iconst 2, 1) := by decide +kernel
theorem dL_law_667 : decode cL_law 667 = .ok (.iadd, 1) := by decide +kernel
theorem dL_law_668 : decode cL_law 668 = .ok (.iaload, 1) := by decide +kernel
theorem dL_law_669 : decode cL_law 669 = .ok (.invokevirtual 89, 3) := by decide +kernel
theorem dL_law_672 : decode cL_law 672 = .ok (.aload_n 2, 1) := by decide +kernel
theorem dL_law_673 : decode cL_law 673 = .ok (.aload_n 0, 1) := by decide +kernel
theorem dL_law_674 : decode cL_law 674 = .ok (.iload_n 3, 1) := by decide +kernel
theorem dL_law_675 : decode cL_law 675 = .ok (.iconst 1, 1) := by decide +kernel
theorem dL_law_676 : decode cL_law 676 = .ok (.iadd, 1) := by decide +kernel
theorem dL_law_677 : decode cL_law 677 = .ok (.iaload, 1) := by decide +kernel
theorem dL_law_678 : decode cL_law 678 = .ok (.aload_n 0, 1) := by decide +kernel
theorem dL_law_679 : decode cL_law 679 = .ok (.iload_n 3, 1) := by decide +kernel
theorem dL_law_680 : decode cL_law 680 = .ok (.iconst 2, 1) := by decide +kernel
theorem dL_law_681 : decode cL_law 681 = .ok (.iadd, 1) := by decide +kernel
theorem dL_law_682 : decode cL_law 682 = .ok (.iaload, 1) := by decide +kernel
theorem dL_law_683 : decode cL_law 683 = .ok (.invokevirtual 92, 3) := by decide +kernel
theorem dL_law_686 : decode cL_law 686 = .ok (.if_icmp .eq 687, 3) := by decide +kernel
theorem dL_law_689 : decode cL_law 689 = .ok (.iconst 0, 1) := by decide +kernel
theorem dL_law_690 : decode cL_law 690 = .ok (.ireturn, 1) := by decide +kernel
theorem dL_law_691 : decode cL_law 691 = .ok (.aload_n 1, 1) := by decide +kernel
theorem dL_law_692 : decode cL_law 692 = .ok (.aload_n 0, 1) := by decide +kernel
theorem dL_law_693 : decode cL_law 693 = .ok (.iload_n 3, 1) := by decide +kernel
theorem dL_law_694 : decode cL_law 694 = .ok (.iconst 1, 1) := by decide +kernel
theorem dL_law_695 : decode cL_law 695 = .ok (.iadd, 1) := by decide +kernel
theorem dL_law_696 : decode cL_law 696 = .ok (.iaload, 1) := by decide +kernel
theorem dL_law_697 : decode cL_law 697 = .ok (.invokevirtual 93, 3) := by decide +kernel
theorem dL_law_700 : decode cL_law 700 = .ok (.aload_n 2, 1) := by decide +kernel
theorem dL_law_701 : decode cL_law 701 = .ok (.aload_n 0, 1) := by decide +kernel
theorem dL_law_702 : decode cL_law 702 = .ok (.iload_n 3, 1) := by decide +kernel
theorem dL_law_703 : decode cL_law 703 = .ok (.iconst 1, 1) := by decide +kernel
theorem dL_law_704 : decode cL_law 704 = .ok (.iadd, 1) := by decide +kernel
theorem dL_law_705 : decode cL_law 705 = .ok (.iaload, 1) := by decide +kernel
theorem dL_law_706 : decode cL_law 706 = .ok (.invokevirtual 96, 3) := by decide +kernel
theorem dL_law_709 : decode cL_law 709 = .ok (.if_icmp .eq 664, 3) := by decide +kernel
theorem dL_law_712 : decode cL_law 712 = .ok (.iconst 0, 1) := by decide +kernel
theorem dL_law_713 : decode cL_law 713 = .ok (.ireturn, 1) := by decide +kernel
theorem dL_law_714 : decode cL_law 714 = .ok (.aload_n 1, 1) := by decide +kernel
theorem dL_law_715 : decode cL_law 715 = .ok (.aload_n 0, 1) := by decide +kernel
theorem dL_law_716 : decode cL_law 716 = .ok (.iload_n 3, 1) := by decide +kernel
theorem dL_law_717 : decode cL_law 717 = .ok (.iconst 1, 1) := by decide +kernel
theorem dL_law_718 : decode cL_law 718 = .ok (.iadd, 1) := by decide +kernel
theorem dL_law_719 : decode cL_law 719 = .ok (.iaload, 1) := by decide +kernel
theorem dL_law_720 : decode cL_law 720 = .ok (.invokevirtual 97, 3) := by decide +kernel
theorem dL_law_723 : decode cL_law 723 = .ok (.aload_n 2, 1) := by decide +kernel
theorem dL_law_724 : decode cL_law 724 = .ok (.aload_n 0, 1) := by decide +kernel
theorem dL_law_725 : decode cL_law 725 = .ok (.iload_n 3, 1) := by decide +kernel
theorem dL_law_726 : decode cL_law 726 = .ok (.iconst 1, 1) := by decide +kernel
theorem dL_law_727 : decode cL_law 727 = .ok (.iadd, 1) := by decide +kernel
theorem dL_law_728 : decode cL_law 728 = .ok (.iaload, 1) := by decide +kernel
theorem dL_law_729 : decode cL_law 729 = .ok (.invokevirtual 100, 3) := by decide +kernel
theorem dL_law_732 : decode cL_law 732 = .ok (.if_icmp .eq 641, 3) := by decide +kernel
theorem dL_law_735 : decode cL_law 735 = .ok (.iconst 0, 1) := by decide +kernel
theorem dL_law_736 : decode cL_law 736 = .ok (.ireturn, 1) := by decide +kernel
theorem dL_law_737 : decode cL_law 737 = .ok (.aload_n 1, 1) := by decide +kernel
theorem dL_law_738 : decode cL_law 738 = .ok (.invokevirtual 101, 3) := by decide +kernel
theorem dL_law_741 : decode cL_law 741 = .ok (.aload_n 2, 1) := by decide +kernel
theorem dL_law_742 : decode cL_law 742 = .ok (.invokevirtual 104, 3) := by decide +kernel
theorem dL_law_745 : decode cL_law 745 = .ok (.if_icmp .eq 628, 3) := by decide +kernel
theorem dL_law_748 : decode cL_law 748 = .ok (.iconst 0, 1) := by decide +kernel
theorem dL_law_749 : decode cL_law 749 = .ok (.ireturn, 1) := by decide +kernel
theorem dL_law_750 : decode cL_law 750 = .ok (.aload_n 1, 1) := by decide +kernel
theorem dL_law_751 : decode cL_law 751 = .ok (.invokevirtual 105, 3) := by decide +kernel
theorem dL_law_754 : decode cL_law 754 = .ok (.aload_n 2, 1) := by decide +kernel
theorem dL_law_755 : decode cL_law 755 = .ok (.invokevirtual 108, 3) := by decide +kernel
theorem dL_law_758 : decode cL_law 758 = .ok (.if_icmp .eq 615, 3) := by decide +kernel
theorem dL_law_761 : decode cL_law 761 = .ok (.iconst 0, 1) := by decide +kernel
theorem dL_law_762 : decode cL_law 762 = .ok (.ireturn, 1) := by decide +kernel
theorem dL_law_763 : decode cL_law 763 = .ok (.aload_n 1, 1) := by decide +kernel
theorem dL_law_764 : decode cL_law 764 = .ok (.aload_n 0, 1) := by decide +kernel
theorem dL_law_765 : decode cL_law 765 = .ok (.iload_n 3, 1) := by decide +kernel
theorem dL_law_766 : decode cL_law 766 = .ok (.iconst 1, 1) := by decide +kernel
theorem dL_law_767 : decode cL_law 767 = .ok (.iadd, 1) := by decide +kernel
theorem dL_law_768 : decode cL_law 768 = .ok (.iaload, 1) := by decide +kernel
theorem dL_law_769 : decode cL_law 769 = .ok (.aload_n 0, 1) := by decide +kernel
theorem dL_law_770 : decode cL_law 770 = .ok (.iload_n 3, 1) := by decide +kernel
theorem dL_law_771 : decode cL_law 771 = .ok (.iconst 2, 1) := by decide +kernel
theorem dL_law_772 : decode cL_law 772 = .ok (.iadd, 1) := by decide +kernel
theorem dL_law_773 : decode cL_law 773 = .ok (.iaload, 1) := by decide +kernel
theorem dL_law_774 : decode cL_law 774 = .ok (.invokevirtual 109, 3) := by decide +kernel
theorem dL_law_777 : decode cL_law 777 = .ok (.aload_n 2, 1) := by decide +kernel
theorem dL_law_778 : decode cL_law 778 = .ok (.aload_n 0, 1) := by decide +kernel
theorem dL_law_779 : decode cL_law 779 = .ok (.iload_n 3, 1) := by decide +kernel
theorem dL_law_780 : decode cL_law 780 = .ok (.iconst 1, 1) := by decide +kernel
theorem dL_law_781 : decode cL_law 781 = .ok (.iadd, 1) := by decide +kernel
theorem dL_law_782 : decode cL_law 782 = .ok (.iaload, 1) := by decide +kernel
theorem dL_law_783 : decode cL_law 783 = .ok (.aload_n 0, 1) := by decide +kernel
theorem dL_law_784 : decode cL_law 784 = .ok (.iload_n 3, 1) := by decide +kernel
theorem dL_law_785 : decode cL_law 785 = .ok (.iconst 2, 1) := by decide +kernel
theorem dL_law_786 : decode cL_law 786 = .ok (.iadd, 1) := by decide +kernel
theorem dL_law_787 : decode cL_law 787 = .ok (.iaload, 1) := by decide +kernel
theorem dL_law_788 : decode cL_law 788 = .ok (.invokevirtual 112, 3) := by decide +kernel
theorem dL_law_791 : decode cL_law 791 = .ok (.if_icmp .eq 582, 3) := by decide +kernel
theorem dL_law_794 : decode cL_law 794 = .ok (.iconst 0, 1) := by decide +kernel
theorem dL_law_795 : decode cL_law 795 = .ok (.ireturn, 1) := by decide +kernel
theorem dL_law_796 : decode cL_law 796 = .ok (.aload_n 1, 1) := by decide +kernel
theorem dL_law_797 : decode cL_law 797 = .ok (.invokevirtual 113, 3) := by decide +kernel
theorem dL_law_800 : decode cL_law 800 = .ok (.aload_n 2, 1) := by decide +kernel
theorem dL_law_801 : decode cL_law 801 = .ok (.invokevirtual 116, 3) := by decide +kernel
theorem dL_law_804 : decode cL_law 804 = .ok (.if_icmp .eq 569, 3) := by decide +kernel
theorem dL_law_807 : decode cL_law 807 = .ok (.iconst 0, 1) := by decide +kernel
theorem dL_law_808 : decode cL_law 808 = .ok (.ireturn, 1) := by decide +kernel
theorem dL_law_809 : decode cL_law 809 = .ok (.aload_n 1, 1) := by decide +kernel
theorem dL_law_810 : decode cL_law 810 = .ok (.aload_n 0, 1) := by decide +kernel
theorem dL_law_811 : decode cL_law 811 = .ok (.iload_n 3, 1) := by decide +kernel
theorem dL_law_812 : decode cL_law 812 = .ok (.iconst 1, 1) := by decide +kernel
theorem dL_law_813 : decode cL_law 813 = .ok (.iadd, 1) := by decide +kernel
theorem dL_law_814 : decode cL_law 814 = .ok (.iaload, 1) := by decide +kernel
theorem dL_law_815 : decode cL_law 815 = .ok (.aload_n 0, 1) := by decide +kernel
theorem dL_law_816 : decode cL_law 816 = .ok (.iload_n 3, 1) := by decide +kernel
theorem dL_law_817 : decode cL_law 817 = .ok (.iconst 2, 1) := by decide +kernel
theorem dL_law_818 : decode cL_law 818 = .ok (.iadd, 1) := by decide +kernel
theorem dL_law_819 : decode cL_law 819 = .ok (.iaload, 1) := by decide +kernel
theorem dL_law_820 : decode cL_law 820 = .ok (.invokevirtual 117, 3) := by decide +kernel
theorem dL_law_823 : decode cL_law 823 = .ok (.aload_n 2, 1) := by decide +kernel
theorem dL_law_824 : decode cL_law 824 = .ok (.aload_n 0, 1) := by decide +kernel
theorem dL_law_825 : decode cL_law 825 = .ok (.iload_n 3, 1) := by decide +kernel
theorem dL_law_826 : decode cL_law 826 = .ok (.iconst 1, 1) := by decide +kernel
theorem dL_law_827 : decode cL_law 827 = .ok (.iadd, 1) := by decide +kernel
theorem dL_law_828 : decode cL_law 828 = .ok (.iaload, 1) := by decide +kernel
theorem dL_law_829 : decode cL_law 829 = .ok (.aload_n 0, 1) := by decide +kernel
theorem dL_law_830 : decode cL_law 830 = .ok (.iload_n 3, 1) := by decide +kernel
theorem dL_law_831 : decode cL_law 831 = .ok (.iconst 2, 1) := by decide +kernel
theorem dL_law_832 : decode cL_law 832 = .ok (.iadd, 1) := by decide +kernel
theorem dL_law_833 : decode cL_law 833 = .ok (.iaload, 1) := by decide +kernel
theorem dL_law_834 : decode cL_law 834 = .ok (.invokevirtual 120, 3) := by decide +kernel
theorem dL_law_837 : decode cL_law 837 = .ok (.if_icmp .eq 536, 3) := by decide +kernel
theorem dL_law_840 : decode cL_law 840 = .ok (.iconst 0, 1) := by decide +kernel
theorem dL_law_841 : decode cL_law 841 = .ok (.ireturn, 1) := by decide +kernel
theorem dL_law_842 : decode cL_law 842 = .ok (.aload_n 1, 1) := by decide +kernel
theorem dL_law_843 : decode cL_law 843 = .ok (.aload_n 0, 1) := by decide +kernel
theorem dL_law_844 : decode cL_law 844 = .ok (.iload_n 3, 1) := by decide +kernel
theorem dL_law_845 : decode cL_law 845 = .ok (.iconst 1, 1) := by decide +kernel
theorem dL_law_846 : decode cL_law 846 = .ok (.iadd, 1) := by decide +kernel
theorem dL_law_847 : decode cL_law 847 = .ok (.iaload, 1) := by decide +kernel
theorem dL_law_848 : decode cL_law 848 = .ok (.aload_n 0, 1) := by decide +kernel
theorem dL_law_849 : decode cL_law 849 = .ok (.iload_n 3, 1) := by decide +kernel
theorem dL_law_850 : decode cL_law 850 = .ok (.iconst 2, 1) := by decide +kernel
theorem dL_law_851 : decode cL_law 851 = .ok (.iadd, 1) := by decide +kernel
theorem dL_law_852 : decode cL_law 852 = .ok (.iaload, 1) := by decide +kernel
theorem dL_law_853 : decode cL_law 853 = .ok (.aload_n 0, 1) := by decide +kernel
theorem dL_law_854 : decode cL_law 854 = .ok (.iload_n 3, 1) := by decide +kernel
theorem dL_law_855 : decode cL_law 855 = .ok (.iconst 3, 1) := by decide +kernel
theorem dL_law_856 : decode cL_law 856 = .ok (.iadd, 1) := by decide +kernel
theorem dL_law_857 : decode cL_law 857 = .ok (.iaload, 1) := by decide +kernel
theorem dL_law_858 : decode cL_law 858 = .ok (.invokevirtual 121, 3) := by decide +kernel
theorem dL_law_861 : decode cL_law 861 = .ok (.aload_n 2, 1) := by decide +kernel
theorem dL_law_862 : decode cL_law 862 = .ok (.aload_n 0, 1) := by decide +kernel
theorem dL_law_863 : decode cL_law 863 = .ok (.iload_n 3, 1) := by decide +kernel
theorem dL_law_864 : decode cL_law 864 = .ok (.iconst 1, 1) := by decide +kernel
theorem dL_law_865 : decode cL_law 865 = .ok (.iadd, 1) := by decide +kernel
theorem dL_law_866 : decode cL_law 866 = .ok (.iaload, 1) := by decide +kernel
theorem dL_law_867 : decode cL_law 867 = .ok (.aload_n 0, 1) := by decide +kernel
theorem dL_law_868 : decode cL_law 868 = .ok (.iload_n 3, 1) := by decide +kernel
theorem dL_law_869 : decode cL_law 869 = .ok (.iconst 2, 1) := by decide +kernel
theorem dL_law_870 : decode cL_law 870 = .ok (.iadd, 1) := by decide +kernel
theorem dL_law_871 : decode cL_law 871 = .ok (.iaload, 1) := by decide +kernel
theorem dL_law_872 : decode cL_law 872 = .ok (.aload_n 0, 1) := by decide +kernel
theorem dL_law_873 : decode cL_law 873 = .ok (.iload_n 3, 1) := by decide +kernel
theorem dL_law_874 : decode cL_law 874 = .ok (.iconst 3, 1) := by decide +kernel
theorem dL_law_875 : decode cL_law 875 = .ok (.iadd, 1) := by decide +kernel
theorem dL_law_876 : decode cL_law 876 = .ok (.iaload, 1) := by decide +kernel
theorem dL_law_877 : decode cL_law 877 = .ok (.invokevirtual 125, 3) := by decide +kernel
theorem dL_law_880 : decode cL_law 880 = .ok (.if_icmp .eq 493, 3) := by decide +kernel
theorem dL_law_883 : decode cL_law 883 = .ok (.iconst 0, 1) := by decide +kernel
theorem dL_law_884 : decode cL_law 884 = .ok (.ireturn, 1) := by decide +kernel
theorem dL_law_885 : decode cL_law 885 = .ok (.aload_n 1, 1) := by decide +kernel
theorem dL_law_886 : decode cL_law 886 = .ok (.aload_n 0, 1) := by decide +kernel
theorem dL_law_887 : decode cL_law 887 = .ok (.iload_n 3, 1) := by decide +kernel
theorem dL_law_888 : decode cL_law 888 = .ok (.iconst 1, 1) := by decide +kernel
theorem dL_law_889 : decode cL_law 889 = .ok (.iadd, 1) := by decide +kernel
theorem dL_law_890 : decode cL_law 890 = .ok (.iaload, 1) := by decide +kernel
theorem dL_law_891 : decode cL_law 891 = .ok (.invokevirtual 126, 3) := by decide +kernel
theorem dL_law_894 : decode cL_law 894 = .ok (.aload_n 2, 1) := by decide +kernel
theorem dL_law_895 : decode cL_law 895 = .ok (.aload_n 0, 1) := by decide +kernel
theorem dL_law_896 : decode cL_law 896 = .ok (.iload_n 3, 1) := by decide +kernel
theorem dL_law_897 : decode cL_law 897 = .ok (.iconst 1, 1) := by decide +kernel
theorem dL_law_898 : decode cL_law 898 = .ok (.iadd, 1) := by decide +kernel
theorem dL_law_899 : decode cL_law 899 = .ok (.iaload, 1) := by decide +kernel
theorem dL_law_900 : decode cL_law 900 = .ok (.invokevirtual 129, 3) := by decide +kernel
theorem dL_law_903 : decode cL_law 903 = .ok (.if_icmp .eq 470, 3) := by decide +kernel
theorem dL_law_906 : decode cL_law 906 = .ok (.iconst 0, 1) := by decide +kernel
theorem dL_law_907 : decode cL_law 907 = .ok (.ireturn, 1) := by decide +kernel
theorem dL_law_908 : decode cL_law 908 = .ok (.aload_n 1, 1) := by decide +kernel
theorem dL_law_909 : decode cL_law 909 = .ok (.aload_n 0, 1) := by decide +kernel
theorem dL_law_910 : decode cL_law 910 = .ok (.iload_n 3, 1) := by decide +kernel
theorem dL_law_911 : decode cL_law 911 = .ok (.iconst 1, 1) := by decide +kernel
theorem dL_law_912 : decode cL_law 912 = .ok (.iadd, 1) := by decide +kernel
theorem dL_law_913 : decode cL_law 913 = .ok (.iaload, 1) := by decide +kernel
theorem dL_law_914 : decode cL_law 914 = .ok (.invokevirtual 130, 3) := by decide +kernel
theorem dL_law_917 : decode cL_law 917 = .ok (.aload_n 2, 1) := by decide +kernel
theorem dL_law_918 : decode cL_law 918 = .ok (.aload_n 0, 1) := by decide +kernel
theorem dL_law_919 : decode cL_law 919 = .ok (.iload_n 3, 1) := by decide +kernel
theorem dL_law_920 : decode cL_law 920 = .ok (.iconst 1, 1) := by decide +kernel
theorem dL_law_921 : decode cL_law 921 = .ok (.iadd, 1) := by decide +kernel
theorem dL_law_922 : decode cL_law 922 = .ok (.iaload, 1) := by decide +kernel
theorem dL_law_923 : decode cL_law 923 = .ok (.invokevirtual 133, 3) := by decide +kernel
theorem dL_law_926 : decode cL_law 926 = .ok (.if_icmp .eq 447, 3) := by decide +kernel
theorem dL_law_929 : decode cL_law 929 = .ok (.iconst 0, 1) := by decide +kernel
theorem dL_law_930 : decode cL_law 930 = .ok (.ireturn, 1) := by decide +kernel
theorem dL_law_931 : decode cL_law 931 = .ok (.aload_n 1, 1) := by decide +kernel
theorem dL_law_932 : decode cL_law 932 = .ok (.aload_n 0, 1) := by decide +kernel
theorem dL_law_933 : decode cL_law 933 = .ok (.iload_n 3, 1) := by decide +kernel
theorem dL_law_934 : decode cL_law 934 = .ok (.iconst 1, 1) := by decide +kernel
theorem dL_law_935 : decode cL_law 935 = .ok (.iadd, 1) := by decide +kernel
theorem dL_law_936 : decode cL_law 936 = .ok (.iaload, 1) := by decide +kernel
theorem dL_law_937 : decode cL_law 937 = .ok (.invokevirtual 134, 3) := by decide +kernel
theorem dL_law_940 : decode cL_law 940 = .ok (.aload_n 2, 1) := by decide +kernel
theorem dL_law_941 : decode cL_law 941 = .ok (.aload_n 0, 1) := by decide +kernel
theorem dL_law_942 : decode cL_law 942 = .ok (.iload_n 3, 1) := by decide +kernel
theorem dL_law_943 : decode cL_law 943 = .ok (.iconst 1, 1) := by decide +kernel
theorem dL_law_944 : decode cL_law 944 = .ok (.iadd, 1) := by decide +kernel
theorem dL_law_945 : decode cL_law 945 = .ok (.iaload, 1) := by decide +kernel
theorem dL_law_946 : decode cL_law 946 = .ok (.invokevirtual 137, 3) := by decide +kernel
theorem dL_law_949 : decode cL_law 949 = .ok (.if_icmp .eq 424, 3) := by decide +kernel
theorem dL_law_952 : decode cL_law 952 = .ok (.iconst 0, 1) := by decide +kernel
theorem dL_law_953 : decode cL_law 953 = .ok (.ireturn, 1) := by decide +kernel
theorem dL_law_954 : decode cL_law 954 = .ok (.aload_n 1, 1) := by decide +kernel
theorem dL_law_955 : decode cL_law 955 = .ok (.aload_n 0, 1) := by decide +kernel
theorem dL_law_956 : decode cL_law 956 = .ok (.iload_n 3, 1) := by decide +kernel
theorem dL_law_957 : decode cL_law 957 = .ok (.iconst 1, 1) := by decide +kernel
theorem dL_law_958 : decode cL_law 958 = .ok (.iadd, 1) := by decide +kernel
theorem dL_law_959 : decode cL_law 959 = .ok (.iaload, 1) := by decide +kernel
theorem dL_law_960 : decode cL_law 960 = .ok (.aload_n 0, 1) := by decide +kernel
theorem dL_law_961 : decode cL_law 961 = .ok (.iload_n 3, 1) := by decide +kernel
theorem dL_law_962 : decode cL_law 962 = .ok (.iconst 2, 1) := by decide +kernel
theorem dL_law_963 : decode cL_law 963 = .ok (.iadd, 1) := by decide +kernel
theorem dL_law_964 : decode cL_law 964 = .ok (.iaload, 1) := by decide +kernel
theorem dL_law_965 : decode cL_law 965 = .ok (.aload_n 0, 1) := by decide +kernel
theorem dL_law_966 : decode cL_law 966 = .ok (.iload_n 3, 1) := by decide +kernel
theorem dL_law_967 : decode cL_law 967 = .ok (.iconst 3, 1) := by decide +kernel
theorem dL_law_968 : decode cL_law 968 = .ok (.iadd, 1) := by decide +kernel
theorem dL_law_969 : decode cL_law 969 = .ok (.iaload, 1) := by decide +kernel
theorem dL_law_970 : decode cL_law 970 = .ok (.invokevirtual 138, 3) := by decide +kernel
theorem dL_law_973 : decode cL_law 973 = .ok (.aload_n 2, 1) := by decide +kernel
theorem dL_law_974 : decode cL_law 974 = .ok (.aload_n 0, 1) := by decide +kernel
theorem dL_law_975 : decode cL_law 975 = .ok (.iload_n 3, 1) := by decide +kernel
theorem dL_law_976 : decode cL_law 976 = .ok (.iconst 1, 1) := by decide +kernel
theorem dL_law_977 : decode cL_law 977 = .ok (.iadd, 1) := by decide +kernel
theorem dL_law_978 : decode cL_law 978 = .ok (.iaload, 1) := by decide +kernel
theorem dL_law_979 : decode cL_law 979 = .ok (.aload_n 0, 1) := by decide +kernel
theorem dL_law_980 : decode cL_law 980 = .ok (.iload_n 3, 1) := by decide +kernel
theorem dL_law_981 : decode cL_law 981 = .ok (.iconst 2, 1) := by decide +kernel
theorem dL_law_982 : decode cL_law 982 = .ok (.iadd, 1) := by decide +kernel
theorem dL_law_983 : decode cL_law 983 = .ok (.iaload, 1) := by decide +kernel
theorem dL_law_984 : decode cL_law 984 = .ok (.aload_n 0, 1) := by decide +kernel
theorem dL_law_985 : decode cL_law 985 = .ok (.iload_n 3, 1) := by decide +kernel
theorem dL_law_986 : decode cL_law 986 = .ok (.iconst 3, 1) := by decide +kernel
theorem dL_law_987 : decode cL_law 987 = .ok (.iadd, 1) := by decide +kernel
theorem dL_law_988 : decode cL_law 988 = .ok (.iaload, 1) := by decide +kernel
theorem dL_law_989 : decode cL_law 989 = .ok (.invokevirtual 141, 3) := by decide +kernel
theorem dL_law_992 : decode cL_law 992 = .ok (.if_icmp .eq 381, 3) := by decide +kernel
theorem dL_law_995 : decode cL_law 995 = .ok (.iconst 0, 1) := by decide +kernel
theorem dL_law_996 : decode cL_law 996 = .ok (.ireturn, 1) := by decide +kernel
theorem dL_law_997 : decode cL_law 997 = .ok (.aload_n 1, 1) := by decide +kernel
theorem dL_law_998 : decode cL_law 998 = .ok (.invokevirtual 142, 3) := by decide +kernel
theorem dL_law_1001 : decode cL_law 1001 = .ok (.aload_n 2, 1) := by decide +kernel
theorem dL_law_1002 : decode cL_law 1002 = .ok (.invokevirtual 145, 3) := by decide +kernel
theorem dL_law_1005 : decode cL_law 1005 = .ok (.if_icmp .eq 368, 3) := by decide +kernel
theorem dL_law_1008 : decode cL_law 1008 = .ok (.iconst 0, 1) := by decide +kernel
theorem dL_law_1009 : decode cL_law 1009 = .ok (.ireturn, 1) := by decide +kernel
theorem dL_law_1010 : decode cL_law 1010 = .ok (.aload_n 1, 1) := by decide +kernel
theorem dL_law_1011 : decode cL_law 1011 = .ok (.invokevirtual 146, 3) := by decide +kernel
theorem dL_law_1014 : decode cL_law 1014 = .ok (.aload_n 2, 1) := by decide +kernel
theorem dL_law_1015 : decode cL_law 1015 = .ok (.invokevirtual 149, 3) := by decide +kernel
theorem dL_law_1018 : decode cL_law 1018 = .ok (.if_icmp .eq 355, 3) := by decide +kernel
theorem dL_law_1021 : decode cL_law 1021 = .ok (.iconst 0, 1) := by decide +kernel
theorem dL_law_1022 : decode cL_law 1022 = .ok (.ireturn, 1) := by decide +kernel
theorem dL_law_1023 : decode cL_law 1023 = .ok (.aload_n 1, 1) := by decide +kernel
theorem dL_law_1024 : decode cL_law 1024 = .ok (.aload_n 0, 1) := by decide +kernel
theorem dL_law_1025 : decode cL_law 1025 = .ok (.iload_n 3, 1) := by decide +kernel
theorem dL_law_1026 : decode cL_law 1026 = .ok (.iconst 1, 1) := by decide +kernel
theorem dL_law_1027 : decode cL_law 1027 = .ok (.iadd, 1) := by decide +kernel
theorem dL_law_1028 : decode cL_law 1028 = .ok (.iaload, 1) := by decide +kernel
theorem dL_law_1029 : decode cL_law 1029 = .ok (.aload_n 0, 1) := by decide +kernel
theorem dL_law_1030 : decode cL_law 1030 = .ok (.iload_n 3, 1) := by decide +kernel
theorem dL_law_1031 : decode cL_law 1031 = .ok (.iconst 2, 1) := by decide +kernel
theorem dL_law_1032 : decode cL_law 1032 = .ok (.iadd, 1) := by decide +kernel
theorem dL_law_1033 : decode cL_law 1033 = .ok (.iaload, 1) := by decide +kernel
theorem dL_law_1034 : decode cL_law 1034 = .ok (.aload_n 0, 1) := by decide +kernel
theorem dL_law_1035 : decode cL_law 1035 = .ok (.iload_n 3, 1) := by decide +kernel
theorem dL_law_1036 : decode cL_law 1036 = .ok (.iconst 3, 1) := by decide +kernel
theorem dL_law_1037 : decode cL_law 1037 = .ok (.iadd, 1) := by decide +kernel
theorem dL_law_1038 : decode cL_law 1038 = .ok (.iaload, 1) := by decide +kernel
theorem dL_law_1039 : decode cL_law 1039 = .ok (.aload_n 0, 1) := by decide +kernel
theorem dL_law_1040 : decode cL_law 1040 = .ok (.iload_n 3, 1) := by decide +kernel
theorem dL_law_1041 : decode cL_law 1041 = .ok (.iconst 4, 1) := by decide +kernel
theorem dL_law_1042 : decode cL_law 1042 = .ok (.iadd, 1) := by decide +kernel
theorem dL_law_1043 : decode cL_law 1043 = .ok (.iaload, 1) := by decide +kernel
theorem dL_law_1044 : decode cL_law 1044 = .ok (.aload_n 0, 1) := by decide +kernel
theorem dL_law_1045 : decode cL_law 1045 = .ok (.iload_n 3, 1) := by decide +kernel
theorem dL_law_1046 : decode cL_law 1046 = .ok (.iconst 5, 1) := by decide +kernel
theorem dL_law_1047 : decode cL_law 1047 = .ok (.iadd, 1) := by decide +kernel
theorem dL_law_1048 : decode cL_law 1048 = .ok (.iaload, 1) := by decide +kernel
theorem dL_law_1049 : decode cL_law 1049 = .ok (.aload_n 0, 1) := by decide +kernel
theorem dL_law_1050 : decode cL_law 1050 = .ok (.iload_n 3, 1) := by decide +kernel
theorem dL_law_1051 : decode cL_law 1051 = .ok (.bipush 6, 2) := by decide +kernel
theorem dL_law_1053 : decode cL_law 1053 = .ok (.iadd, 1) := by decide +kernel
theorem dL_law_1054 : decode cL_law 1054 = .ok (.iaload, 1) := by decide +kernel
theorem dL_law_1055 : decode cL_law 1055 = .ok (.invokevirtual 150, 3) := by decide +kernel
theorem dL_law_1058 : decode cL_law 1058 = .ok (.aload_n 2, 1) := by decide +kernel
theorem dL_law_1059 : decode cL_law 1059 = .ok (.aload_n 0, 1) := by decide +kernel
theorem dL_law_1060 : decode cL_law 1060 = .ok (.iload_n 3, 1) := by decide +kernel
theorem dL_law_1061 : decode cL_law 1061 = .ok (.iconst 1, 1) := by decide +kernel
theorem dL_law_1062 : decode cL_law 1062 = .ok (.iadd, 1) := by decide +kernel
theorem dL_law_1063 : decode cL_law 1063 = .ok (.iaload, 1) := by decide +kernel
theorem dL_law_1064 : decode cL_law 1064 = .ok (.aload_n 0, 1) := by decide +kernel
theorem dL_law_1065 : decode cL_law 1065 = .ok (.iload_n 3, 1) := by decide +kernel
theorem dL_law_1066 : decode cL_law 1066 = .ok (.iconst 2, 1) := by decide +kernel
theorem dL_law_1067 : decode cL_law 1067 = .ok (.iadd, 1) := by decide +kernel
theorem dL_law_1068 : decode cL_law 1068 = .ok (.iaload, 1) := by decide +kernel
theorem dL_law_1069 : decode cL_law 1069 = .ok (.aload_n 0, 1) := by decide +kernel
theorem dL_law_1070 : decode cL_law 1070 = .ok (.iload_n 3, 1) := by decide +kernel
theorem dL_law_1071 : decode cL_law 1071 = .ok (.iconst 3, 1) := by decide +kernel
theorem dL_law_1072 : decode cL_law 1072 = .ok (.iadd, 1) := by decide +kernel
theorem dL_law_1073 : decode cL_law 1073 = .ok (.iaload, 1) := by decide +kernel
theorem dL_law_1074 : decode cL_law 1074 = .ok (.aload_n 0, 1) := by decide +kernel
theorem dL_law_1075 : decode cL_law 1075 = .ok (.iload_n 3, 1) := by decide +kernel
theorem dL_law_1076 : decode cL_law 1076 = .ok (.iconst 4, 1) := by decide +kernel
theorem dL_law_1077 : decode cL_law 1077 = .ok (.iadd, 1) := by decide +kernel
theorem dL_law_1078 : decode cL_law 1078 = .ok (.iaload, 1) := by decide +kernel
theorem dL_law_1079 : decode cL_law 1079 = .ok (.aload_n 0, 1) := by decide +kernel
theorem dL_law_1080 : decode cL_law 1080 = .ok (.iload_n 3, 1) := by decide +kernel
theorem dL_law_1081 : decode cL_law 1081 = .ok (.iconst 5, 1) := by decide +kernel
theorem dL_law_1082 : decode cL_law 1082 = .ok (.iadd, 1) := by decide +kernel
theorem dL_law_1083 : decode cL_law 1083 = .ok (.iaload, 1) := by decide +kernel
theorem dL_law_1084 : decode cL_law 1084 = .ok (.aload_n 0, 1) := by decide +kernel
theorem dL_law_1085 : decode cL_law 1085 = .ok (.iload_n 3, 1) := by decide +kernel
theorem dL_law_1086 : decode cL_law 1086 = .ok (.bipush 6, 2) := by decide +kernel
theorem dL_law_1088 : decode cL_law 1088 = .ok (.iadd, 1) := by decide +kernel
theorem dL_law_1089 : decode cL_law 1089 = .ok (.iaload, 1) := by decide +kernel
theorem dL_law_1090 : decode cL_law 1090 = .ok (.invokevirtual 154, 3) := by decide +kernel
theorem dL_law_1093 : decode cL_law 1093 = .ok (.if_icmp .eq 280, 3) := by decide +kernel
theorem dL_law_1096 : decode cL_law 1096 = .ok (.iconst 0, 1) := by decide +kernel
theorem dL_law_1097 : decode cL_law 1097 = .ok (.ireturn, 1) := by decide +kernel
theorem dL_law_1098 : decode cL_law 1098 = .ok (.aload_n 1, 1) := by decide +kernel
theorem dL_law_1099 : decode cL_law 1099 = .ok (.aload_n 0, 1) := by decide +kernel
theorem dL_law_1100 : decode cL_law 1100 = .ok (.iload_n 3, 1) := by decide +kernel
theorem dL_law_1101 : decode cL_law 1101 = .ok (.iconst 1, 1) := by decide +kernel
theorem dL_law_1102 : decode cL_law 1102 = .ok (.iadd, 1) := by decide +kernel
theorem dL_law_1103 : decode cL_law 1103 = .ok (.iaload, 1) := by decide +kernel
theorem dL_law_1104 : decode cL_law 1104 = .ok (.aload_n 0, 1) := by decide +kernel
theorem dL_law_1105 : decode cL_law 1105 = .ok (.iload_n 3, 1) := by decide +kernel
theorem dL_law_1106 : decode cL_law 1106 = .ok (.iconst 2, 1) := by decide +kernel
theorem dL_law_1107 : decode cL_law 1107 = .ok (.iadd, 1) := by decide +kernel
theorem dL_law_1108 : decode cL_law 1108 = .ok (.iaload, 1) := by decide +kernel
theorem dL_law_1109 : decode cL_law 1109 = .ok (.aload_n 0, 1) := by decide +kernel
theorem dL_law_1110 : decode cL_law 1110 = .ok (.iload_n 3, 1) := by decide +kernel
theorem dL_law_1111 : decode cL_law 1111 = .ok (.iconst 3, 1) := by decide +kernel
theorem dL_law_1112 : decode cL_law 1112 = .ok (.iadd, 1) := by decide +kernel
theorem dL_law_1113 : decode cL_law 1113 = .ok (.iaload, 1) := by decide +kernel
theorem dL_law_1114 : decode cL_law 1114 = .ok (.aload_n 0, 1) := by decide +kernel
theorem dL_law_1115 : decode cL_law 1115 = .ok (.iload_n 3, 1) := by decide +kernel
theorem dL_law_1116 : decode cL_law 1116 = .ok (.iconst 4, 1) := by decide +kernel
theorem dL_law_1117 : decode cL_law 1117 = .ok (.iadd, 1) := by decide +kernel
theorem dL_law_1118 : decode cL_law 1118 = .ok (.iaload, 1) := by decide +kernel
theorem dL_law_1119 : decode cL_law 1119 = .ok (.aload_n 0, 1) := by decide +kernel
theorem dL_law_1120 : decode cL_law 1120 = .ok (.iload_n 3, 1) := by decide +kernel
theorem dL_law_1121 : decode cL_law 1121 = .ok (.iconst 5, 1) := by decide +kernel
theorem dL_law_1122 : decode cL_law 1122 = .ok (.iadd, 1) := by decide +kernel
theorem dL_law_1123 : decode cL_law 1123 = .ok (.iaload, 1) := by decide +kernel
theorem dL_law_1124 : decode cL_law 1124 = .ok (.invokevirtual 155, 3) := by decide +kernel
theorem dL_law_1127 : decode cL_law 1127 = .ok (.aload_n 2, 1) := by decide +kernel
theorem dL_law_1128 : decode cL_law 1128 = .ok (.aload_n 0, 1) := by decide +kernel
theorem dL_law_1129 : decode cL_law 1129 = .ok (.iload_n 3, 1) := by decide +kernel
theorem dL_law_1130 : decode cL_law 1130 = .ok (.iconst 1, 1) := by decide +kernel
theorem dL_law_1131 : decode cL_law 1131 = .ok (.iadd, 1) := by decide +kernel
theorem dL_law_1132 : decode cL_law 1132 = .ok (.iaload, 1) := by decide +kernel
theorem dL_law_1133 : decode cL_law 1133 = .ok (.aload_n 0, 1) := by decide +kernel
theorem dL_law_1134 : decode cL_law 1134 = .ok (.iload_n 3, 1) := by decide +kernel
theorem dL_law_1135 : decode cL_law 1135 = .ok (.iconst 2, 1) := by decide +kernel
theorem dL_law_1136 : decode cL_law 1136 = .ok (.iadd, 1) := by decide +kernel
theorem dL_law_1137 : decode cL_law 1137 = .ok (.iaload, 1) := by decide +kernel
theorem dL_law_1138 : decode cL_law 1138 = .ok (.aload_n 0, 1) := by decide +kernel
theorem dL_law_1139 : decode cL_law 1139 = .ok (.iload_n 3, 1) := by decide +kernel
theorem dL_law_1140 : decode cL_law 1140 = .ok (.iconst 3, 1) := by decide +kernel
theorem dL_law_1141 : decode cL_law 1141 = .ok (.iadd, 1) := by decide +kernel
theorem dL_law_1142 : decode cL_law 1142 = .ok (.iaload, 1) := by decide +kernel
theorem dL_law_1143 : decode cL_law 1143 = .ok (.aload_n 0, 1) := by decide +kernel
theorem dL_law_1144 : decode cL_law 1144 = .ok (.iload_n 3, 1) := by decide +kernel
theorem dL_law_1145 : decode cL_law 1145 = .ok (.iconst 4, 1) := by decide +kernel
theorem dL_law_1146 : decode cL_law 1146 = .ok (.iadd, 1) := by decide +kernel
theorem dL_law_1147 : decode cL_law 1147 = .ok (.iaload, 1) := by decide +kernel
theorem dL_law_1148 : decode cL_law 1148 = .ok (.aload_n 0, 1) := by decide +kernel
theorem dL_law_1149 : decode cL_law 1149 = .ok (.iload_n 3, 1) := by decide +kernel
theorem dL_law_1150 : decode cL_law 1150 = .ok (.iconst 5, 1) := by decide +kernel
theorem dL_law_1151 : decode cL_law 1151 = .ok (.iadd, 1) := by decide +kernel
theorem dL_law_1152 : decode cL_law 1152 = .ok (.iaload, 1) := by decide +kernel
theorem dL_law_1153 : decode cL_law 1153 = .ok (.invokevirtual 159, 3) := by decide +kernel
theorem dL_law_1156 : decode cL_law 1156 = .ok (.if_icmp .eq 217, 3) := by decide +kernel
theorem dL_law_1159 : decode cL_law 1159 = .ok (.iconst 0, 1) := by decide +kernel
theorem dL_law_1160 : decode cL_law 1160 = .ok (.ireturn, 1) := by decide +kernel
theorem dL_law_1161 : decode cL_law 1161 = .ok (.aload_n 1, 1) := by decide +kernel
theorem dL_law_1162 : decode cL_law 1162 = .ok (.aload_n 0, 1) := by decide +kernel
theorem dL_law_1163 : decode cL_law 1163 = .ok (.iload_n 3, 1) := by decide +kernel
theorem dL_law_1164 : decode cL_law 1164 = .ok (.iconst 1, 1) := by decide +kernel
theorem dL_law_1165 : decode cL_law 1165 = .ok (.iadd, 1) := by decide +kernel
theorem dL_law_1166 : decode cL_law 1166 = .ok (.iaload, 1) := by decide +kernel
theorem dL_law_1167 : decode cL_law 1167 = .ok (.aload_n 0, 1) := by decide +kernel
theorem dL_law_1168 : decode cL_law 1168 = .ok (.iload_n 3, 1) := by decide +kernel
theorem dL_law_1169 : decode cL_law 1169 = .ok (.iconst 2, 1) := by decide +kernel
theorem dL_law_1170 : decode cL_law 1170 = .ok (.iadd, 1) := by decide +kernel
theorem dL_law_1171 : decode cL_law 1171 = .ok (.iaload, 1) := by decide +kernel
theorem dL_law_1172 : decode cL_law 1172 = .ok (.aload_n 0, 1) := by decide +kernel
theorem dL_law_1173 : decode cL_law 1173 = .ok (.iload_n 3, 1) := by decide +kernel
theorem dL_law_1174 : decode cL_law 1174 = .ok (.iconst 3, 1) := by decide +kernel
theorem dL_law_1175 : decode cL_law 1175 = .ok (.iadd, 1) := by decide +kernel
theorem dL_law_1176 : decode cL_law 1176 = .ok (.iaload, 1) := by decide +kernel
theorem dL_law_1177 : decode cL_law 1177 = .ok (.invokevirtual 160, 3) := by decide +kernel
theorem dL_law_1180 : decode cL_law 1180 = .ok (.aload_n 2, 1) := by decide +kernel
theorem dL_law_1181 : decode cL_law 1181 = .ok (.aload_n 0, 1) := by decide +kernel
theorem dL_law_1182 : decode cL_law 1182 = .ok (.iload_n 3, 1) := by decide +kernel
theorem dL_law_1183 : decode cL_law 1183 = .ok (.iconst 1, 1) := by decide +kernel
theorem dL_law_1184 : decode cL_law 1184 = .ok (.iadd, 1) := by decide +kernel
theorem dL_law_1185 : decode cL_law 1185 = .ok (.iaload, 1) := by decide +kernel
theorem dL_law_1186 : decode cL_law 1186 = .ok (.aload_n 0, 1) := by decide +kernel
theorem dL_law_1187 : decode cL_law 1187 = .ok (.iload_n 3, 1) := by decide +kernel
theorem dL_law_1188 : decode cL_law 1188 = .ok (.iconst 2, 1) := by decide +kernel
theorem dL_law_1189 : decode cL_law 1189 = .ok (.iadd, 1) := by decide +kernel
theorem dL_law_1190 : decode cL_law 1190 = .ok (.iaload, 1) := by decide +kernel
theorem dL_law_1191 : decode cL_law 1191 = .ok (.aload_n 0, 1) := by decide +kernel
theorem dL_law_1192 : decode cL_law 1192 = .ok (.iload_n 3, 1) := by decide +kernel
theorem dL_law_1193 : decode cL_law 1193 = .ok (.iconst 3, 1) := by decide +kernel
theorem dL_law_1194 : decode cL_law 1194 = .ok (.iadd, 1) := by decide +kernel
theorem dL_law_1195 : decode cL_law 1195 = .ok (.iaload, 1) := by decide +kernel
theorem dL_law_1196 : decode cL_law 1196 = .ok (.invokevirtual 163, 3) := by decide +kernel
theorem dL_law_1199 : decode cL_law 1199 = .ok (.if_icmp .eq 174, 3) := by decide +kernel
theorem dL_law_1202 : decode cL_law 1202 = .ok (.iconst 0, 1) := by decide +kernel
theorem dL_law_1203 : decode cL_law 1203 = .ok (.ireturn, 1) := by decide +kernel
theorem dL_law_1204 : decode cL_law 1204 = .ok (.aload_n 1, 1) := by decide +kernel
theorem dL_law_1205 : decode cL_law 1205 = .ok (.aload_n 0, 1) := by decide +kernel
theorem dL_law_1206 : decode cL_law 1206 = .ok (.iload_n 3, 1) := by decide +kernel
theorem dL_law_1207 : decode cL_law 1207 = .ok (.iconst 1, 1) := by decide +kernel
theorem dL_law_1208 : decode cL_law 1208 = .ok (.iadd, 1) := by decide +kernel
theorem dL_law_1209 : decode cL_law 1209 = .ok (.iaload, 1) := by decide +kernel
theorem dL_law_1210 : decode cL_law 1210 = .ok (.invokevirtual 164, 3) := by decide +kernel
theorem dL_law_1213 : decode cL_law 1213 = .ok (.aload_n 2, 1) := by decide +kernel
theorem dL_law_1214 : decode cL_law 1214 = .ok (.aload_n 0, 1) := by decide +kernel
theorem dL_law_1215 : decode cL_law 1215 = .ok (.iload_n 3, 1) := by decide +kernel
theorem dL_law_1216 : decode cL_law 1216 = .ok (.iconst 1, 1) := by decide +kernel
theorem dL_law_1217 : decode cL_law 1217 = .ok (.iadd, 1) := by decide +kernel
theorem dL_law_1218 : decode cL_law 1218 = .ok (.iaload, 1) := by decide +kernel
theorem dL_law_1219 : decode cL_law 1219 = .ok (.invokevirtual 167, 3) := by decide +kernel
theorem dL_law_1222 : decode cL_law 1222 = .ok (.if_icmp .eq 151, 3) := by decide +kernel
theorem dL_law_1225 : decode cL_law 1225 = .ok (.iconst 0, 1) := by decide +kernel
theorem dL_law_1226 : decode cL_law 1226 = .ok (.ireturn, 1) := by decide +kernel
theorem dL_law_1227 : decode cL_law 1227 = .ok (.aload_n 1, 1) := by decide +kernel
theorem dL_law_1228 : decode cL_law 1228 = .ok (.aload_n 0, 1) := by decide +kernel
theorem dL_law_1229 : decode cL_law 1229 = .ok (.iload_n 3, 1) := by decide +kernel
theorem dL_law_1230 : decode cL_law 1230 = .ok (.iconst 1, 1) := by decide +kernel
theorem dL_law_1231 : decode cL_law 1231 = .ok (.iadd, 1) := by decide +kernel
theorem dL_law_1232 : decode cL_law 1232 = .ok (.iaload, 1) := by decide +kernel
theorem dL_law_1233 : decode cL_law 1233 = .ok (.aload_n 0, 1) := by decide +kernel
theorem dL_law_1234 : decode cL_law 1234 = .ok (.iload_n 3, 1) := by decide +kernel
theorem dL_law_1235 : decode cL_law 1235 = .ok (.iconst 2, 1) := by decide +kernel
theorem dL_law_1236 : decode cL_law 1236 = .ok (.iadd, 1) := by decide +kernel
theorem dL_law_1237 : decode cL_law 1237 = .ok (.iaload, 1) := by decide +kernel
theorem dL_law_1238 : decode cL_law 1238 = .ok (.aload_n 0, 1) := by decide +kernel
theorem dL_law_1239 : decode cL_law 1239 = .ok (.iload_n 3, 1) := by decide +kernel
theorem dL_law_1240 : decode cL_law 1240 = .ok (.iconst 3, 1) := by decide +kernel
theorem dL_law_1241 : decode cL_law 1241 = .ok (.iadd, 1) := by decide +kernel
theorem dL_law_1242 : decode cL_law 1242 = .ok (.iaload, 1) := by decide +kernel
theorem dL_law_1243 : decode cL_law 1243 = .ok (.aload_n 0, 1) := by decide +kernel
theorem dL_law_1244 : decode cL_law 1244 = .ok (.iload_n 3, 1) := by decide +kernel
theorem dL_law_1245 : decode cL_law 1245 = .ok (.iconst 4, 1) := by decide +kernel
theorem dL_law_1246 : decode cL_law 1246 = .ok (.iadd, 1) := by decide +kernel
theorem dL_law_1247 : decode cL_law 1247 = .ok (.iaload, 1) := by decide +kernel
theorem dL_law_1248 : decode cL_law 1248 = .ok (.i2l, 1) := by decide +kernel
theorem dL_law_1249 : decode cL_law 1249 = .ok (.bipush 32, 2) := by decide +kernel
theorem dL_law_1251 : decode cL_law 1251 = .ok (.lshl, 1) := by decide +kernel
theorem dL_law_1252 : decode cL_law 1252 = .ok (.aload_n 0, 1) := by decide +kernel
theorem dL_law_1253 : decode cL_law 1253 = .ok (.iload_n 3, 1) := by decide +kernel
theorem dL_law_1254 : decode cL_law 1254 = .ok (.iconst 5, 1) := by decide +kernel
theorem dL_law_1255 : decode cL_law 1255 = .ok (.iadd, 1) := by decide +kernel
theorem dL_law_1256 : decode cL_law 1256 = .ok (.iaload, 1) := by decide +kernel
theorem dL_law_1257 : decode cL_law 1257 = .ok (.i2l, 1) := by decide +kernel
theorem dL_law_1258 : decode cL_law 1258 = .ok (.ldc2_w 168, 3) := by decide +kernel
theorem dL_law_1261 : decode cL_law 1261 = .ok (.land, 1) := by decide +kernel
theorem dL_law_1262 : decode cL_law 1262 = .ok (.lor, 1) := by decide +kernel
theorem dL_law_1263 : decode cL_law 1263 = .ok (.invokevirtual 170, 3) := by decide +kernel
theorem dL_law_1266 : decode cL_law 1266 = .ok (.aload_n 2, 1) := by decide +kernel
theorem dL_law_1267 : decode cL_law 1267 = .ok (.aload_n 0, 1) := by decide +kernel
theorem dL_law_1268 : decode cL_law 1268 = .ok (.iload_n 3, 1) := by decide +kernel
theorem dL_law_1269 : decode cL_law 1269 = .ok (.iconst 1, 1) := by decide +kernel
theorem dL_law_1270 : decode cL_law 1270 = .ok (.iadd, 1) := by decide +kernel
theorem dL_law_1271 : decode cL_law 1271 = .ok (.iaload, 1) := by decide +kernel
theorem dL_law_1272 : decode cL_law 1272 = .ok (.aload_n 0, 1) := by decide +kernel
theorem dL_law_1273 : decode cL_law 1273 = .ok (.iload_n 3, 1) := by decide +kernel
theorem dL_law_1274 : decode cL_law 1274 = .ok (.iconst 2, 1) := by decide +kernel
theorem dL_law_1275 : decode cL_law 1275 = .ok (.iadd, 1) := by decide +kernel
theorem dL_law_1276 : decode cL_law 1276 = .ok (.iaload, 1) := by decide +kernel
theorem dL_law_1277 : decode cL_law 1277 = .ok (.aload_n 0, 1) := by decide +kernel
theorem dL_law_1278 : decode cL_law 1278 = .ok (.iload_n 3, 1) := by decide +kernel
theorem dL_law_1279 : decode cL_law 1279 = .ok (.iconst 3, 1) := by decide +kernel
theorem dL_law_1280 : decode cL_law 1280 = .ok (.iadd, 1) := by decide +kernel
theorem dL_law_1281 : decode cL_law 1281 = .ok (.iaload, 1) := by decide +kernel
theorem dL_law_1282 : decode cL_law 1282 = .ok (.aload_n 0, 1) := by decide +kernel
theorem dL_law_1283 : decode cL_law 1283 = .ok (.iload_n 3, 1) := by decide +kernel
theorem dL_law_1284 : decode cL_law 1284 = .ok (.iconst 4, 1) := by decide +kernel
theorem dL_law_1285 : decode cL_law 1285 = .ok (.iadd, 1) := by decide +kernel
theorem dL_law_1286 : decode cL_law 1286 = .ok (.iaload, 1) := by decide +kernel
theorem dL_law_1287 : decode cL_law 1287 = .ok (.i2l, 1) := by decide +kernel
theorem dL_law_1288 : decode cL_law 1288 = .ok (.bipush 32, 2) := by decide +kernel
theorem dL_law_1290 : decode cL_law 1290 = .ok (.lshl, 1) := by decide +kernel
theorem dL_law_1291 : decode cL_law 1291 = .ok (.aload_n 0, 1) := by decide +kernel
theorem dL_law_1292 : decode cL_law 1292 = .ok (.iload_n 3, 1) := by decide +kernel
theorem dL_law_1293 : decode cL_law 1293 = .ok (.iconst 5, 1) := by decide +kernel
theorem dL_law_1294 : decode cL_law 1294 = .ok (.iadd, 1) := by decide +kernel
theorem dL_law_1295 : decode cL_law 1295 = .ok (.iaload, 1) := by decide +kernel
theorem dL_law_1296 : decode cL_law 1296 = .ok (.i2l, 1) := by decide +kernel
theorem dL_law_1297 : decode cL_law 1297 = .ok (.ldc2_w 168, 3) := by decide +kernel
theorem dL_law_1300 : decode cL_law 1300 = .ok (.land, 1) := by decide +kernel
theorem dL_law_1301 : decode cL_law 1301 = .ok (.lor, 1) := by decide +kernel
theorem dL_law_1302 : decode cL_law 1302 = .ok (.invokevirtual 174, 3) := by decide +kernel
theorem dL_law_1305 : decode cL_law 1305 = .ok (.if_icmp .eq 68, 3) := by decide +kernel
theorem dL_law_1308 : decode cL_law 1308 = .ok (.iconst 0, 1) := by decide +kernel
theorem dL_law_1309 : decode cL_law 1309 = .ok (.ireturn, 1) := by decide +kernel
theorem dL_law_1310 : decode cL_law 1310 = .ok (.aload_n 1, 1) := by decide +kernel
theorem dL_law_1311 : decode cL_law 1311 = .ok (.aload_n 0, 1) := by decide +kernel
theorem dL_law_1312 : decode cL_law 1312 = .ok (.iload_n 3, 1) := by decide +kernel
theorem dL_law_1313 : decode cL_law 1313 = .ok (.iconst 1, 1) := by decide +kernel
theorem dL_law_1314 : decode cL_law 1314 = .ok (.iadd, 1) := by decide +kernel
theorem dL_law_1315 : decode cL_law 1315 = .ok (.iaload, 1) := by decide +kernel
theorem dL_law_1316 : decode cL_law 1316 = .ok (.aload_n 0, 1) := by decide +kernel
theorem dL_law_1317 : decode cL_law 1317 = .ok (.iload_n 3, 1) := by decide +kernel
theorem dL_law_1318 : decode cL_law 1318 = .ok (.iconst 2, 1) := by decide +kernel
theorem dL_law_1319 : decode cL_law 1319 = .ok (.iadd, 1) := by decide +kernel
theorem dL_law_1320 : decode cL_law 1320 = .ok (.iaload, 1) := by decide +kernel
theorem dL_law_1321 : decode cL_law 1321 = .ok (.aload_n 0, 1) := by decide +kernel
theorem dL_law_1322 : decode cL_law 1322 = .ok (.iload_n 3, 1) := by decide +kernel
theorem dL_law_1323 : decode cL_law 1323 = .ok (.iconst 3, 1) := by decide +kernel
theorem dL_law_1324 : decode cL_law 1324 = .ok (.iadd, 1) := by decide +kernel
theorem dL_law_1325 : decode cL_law 1325 = .ok (.iaload, 1) := by decide +kernel
theorem dL_law_1326 : decode cL_law 1326 = .ok (.aload_n 0, 1) := by decide +kernel
theorem dL_law_1327 : decode cL_law 1327 = .ok (.iload_n 3, 1) := by decide +kernel
theorem dL_law_1328 : decode cL_law 1328 = .ok (.iconst 4, 1) := by decide +kernel
theorem dL_law_1329 : decode cL_law 1329 = .ok (.iadd, 1) := by decide +kernel
theorem dL_law_1330 : decode cL_law 1330 = .ok (.iaload, 1) := by decide +kernel
theorem dL_law_1331 : decode cL_law 1331 = .ok (.aload_n 0, 1) := by decide +kernel
theorem dL_law_1332 : decode cL_law 1332 = .ok (.iload_n 3, 1) := by decide +kernel
theorem dL_law_1333 : decode cL_law 1333 = .ok (.iconst 5, 1) := by decide +kernel
theorem dL_law_1334 : decode cL_law 1334 = .ok (.iadd, 1) := by decide +kernel
theorem dL_law_1335 : decode cL_law 1335 = .ok (.iaload, 1) := by decide +kernel
theorem dL_law_1336 : decode cL_law 1336 = .ok (.invokevirtual 175, 3) := by decide +kernel
theorem dL_law_1339 : decode cL_law 1339 = .ok (.aload_n 2, 1) := by decide +kernel
theorem dL_law_1340 : decode cL_law 1340 = .ok (.aload_n 0, 1) := by decide +kernel
theorem dL_law_1341 : decode cL_law 1341 = .ok (.iload_n 3, 1) := by decide +kernel
theorem dL_law_1342 : decode cL_law 1342 = .ok (.iconst 1, 1) := by decide +kernel
theorem dL_law_1343 : decode cL_law 1343 = .ok (.iadd, 1) := by decide +kernel
theorem dL_law_1344 : decode cL_law 1344 = .ok (.iaload, 1) := by decide +kernel
theorem dL_law_1345 : decode cL_law 1345 = .ok (.aload_n 0, 1) := by decide +kernel
theorem dL_law_1346 : decode cL_law 1346 = .ok (.iload_n 3, 1) := by decide +kernel
theorem dL_law_1347 : decode cL_law 1347 = .ok (.iconst 2, 1) := by decide +kernel
theorem dL_law_1348 : decode cL_law 1348 = .ok (.iadd, 1) := by decide +kernel
theorem dL_law_1349 : decode cL_law 1349 = .ok (.iaload, 1) := by decide +kernel
theorem dL_law_1350 : decode cL_law 1350 = .ok (.aload_n 0, 1) := by decide +kernel
theorem dL_law_1351 : decode cL_law 1351 = .ok (.iload_n 3, 1) := by decide +kernel
theorem dL_law_1352 : decode cL_law 1352 = .ok (.iconst 3, 1) := by decide +kernel
theorem dL_law_1353 : decode cL_law 1353 = .ok (.iadd, 1) := by decide +kernel
theorem dL_law_1354 : decode cL_law 1354 = .ok (.iaload, 1) := by decide +kernel
theorem dL_law_1355 : decode cL_law 1355 = .ok (.aload_n 0, 1) := by decide +kernel
theorem dL_law_1356 : decode cL_law 1356 = .ok (.iload_n 3, 1) := by decide +kernel
theorem dL_law_1357 : decode cL_law 1357 = .ok (.iconst 4, 1) := by decide +kernel
theorem dL_law_1358 : decode cL_law 1358 = .ok (.iadd, 1) := by decide +kernel
theorem dL_law_1359 : decode cL_law 1359 = .ok (.iaload, 1) := by decide +kernel
theorem dL_law_1360 : decode cL_law 1360 = .ok (.aload_n 0, 1) := by decide +kernel
theorem dL_law_1361 : decode cL_law 1361 = .ok (.iload_n 3, 1) := by decide +kernel
theorem dL_law_1362 : decode cL_law 1362 = .ok (.iconst 5, 1) := by decide +kernel
theorem dL_law_1363 : decode cL_law 1363 = .ok (.iadd, 1) := by decide +kernel
theorem dL_law_1364 : decode cL_law 1364 = .ok (.iaload, 1) := by decide +kernel
theorem dL_law_1365 : decode cL_law 1365 = .ok (.invokevirtual 178, 3) := by decide +kernel
theorem dL_law_1368 : decode cL_law 1368 = .ok (.if_icmp .eq 5, 3) := by decide +kernel
theorem dL_law_1371 : decode cL_law 1371 = .ok (.iconst 0, 1) := by decide +kernel
theorem dL_law_1372 : decode cL_law 1372 = .ok (.ireturn, 1) := by decide +kernel
theorem dL_law_1373 : decode cL_law 1373 = .ok (.iinc 3 7, 3) := by decide +kernel
theorem dL_law_1376 : decode cL_law 1376 = .ok (.goto (-1358), 3) := by decide +kernel
theorem dL_law_1379 : decode cL_law 1379 = .ok (.iconst 1, 1) := by decide +kernel
theorem dL_law_1380 : decode cL_law 1380 = .ok (.ireturn, 1) := by decide +kernel
def sm_L_law_1373 (K18 : Nat → Nat → Int32 → aw_H → Prop) (len : Nat) (xs : Nat → Int32) (Q : aw_R) (p1 : Nat) (p2 : Nat) (x3 : Int32) (h : aw_H) : Prop :=
  K18 p1 p2 (x3 + 7) h
set_option maxRecDepth 100000 in
set_option maxHeartbeats 4000000 in
theorem bl_L_law_1373 {len : Nat} {xs : Nat → Int32} {X : aw_X} {Q : aw_R} (C : aw_C X cL_law RL 4 10) (Z : aw_Z X cL_law (some .boolean) Q) (p1 : Nat) (p2 : Nat) (x3 : Int32) (h : aw_H) (HX : aw_S X 9999 len xs) (hh : sm_L_law_1373 (fun (p1 : Nat) (p2 : Nat) (x3 : Int32) (h : aw_H) => Sat X 18 [.ref 9999, .ref p1, .ref p2, .int x3] [] h) len xs Q p1 p2 x3 h) : Sat X 1373 [.ref 9999, .ref p1, .ref p2, .int x3] [] h := by
  unfold sm_L_law_1373 at hh
  refine ow_iinc (v := x3 + 7) (L' := [.ref 9999, .ref p1, .ref p2, .int (x3 + 7)]) C dL_law_1373 rfl rfl (by decide) rfl ?_
  refine ow_goto (tgt := 18) C dL_law_1376 (by decide) ?_
  exact Sat.mask hh (mk_y (mk_y (mk_y (mk_y mk_0))))
def sm_L_law_1310 (K18 : Nat → Nat → Int32 → aw_H → Prop) (len : Nat) (xs : Nat → Int32) (Q : aw_R) (p1 : Nat) (p2 : Nat) (x3 : Int32) (h : aw_H) : Prop :=
  sx_I len xs (x3 + 1) fun v1 => sx_I len xs (x3 + 2) fun v2 => sx_I len xs (x3 + 3) fun v3 => sx_I len xs (x3 + 4) fun v4 => sx_I len xs (x3 + 5) fun v5 => sv_O h p1 5 (tr_X6_copy [.ref p1, .int v1, .int v2, .int v3, .int v4, .int v5] h fun r7 h6 => sr_I r7 fun v8 => sx_I len xs (x3 + 1) fun v9 => sx_I len xs (x3 + 2) fun v10 => sx_I len xs (x3 + 3) fun v11 => sx_I len xs (x3 + 4) fun v12 => sx_I len xs (x3 + 5) fun v13 => sv_O h6 p2 6 (tr_X7_copy [.ref p2, .int v9, .int v10, .int v11, .int v12, .int v13] h6 fun r15 h14 => sr_I r15 fun v16 => if v8 = v16 then (sm_L_law_1373 K18 len xs Q p1 p2 x3 h14) else (Q (some (.int 0)) h14)))
set_option maxRecDepth 100000 in
set_option maxHeartbeats 4000000 in
theorem bl_L_law_1310 {len : Nat} {xs : Nat → Int32} {X : aw_X} {Q : aw_R} (C : aw_C X cL_law RL 4 10) (Z : aw_Z X cL_law (some .boolean) Q) (p1 : Nat) (p2 : Nat) (x3 : Int32) (h : aw_H) (HX : aw_S X 9999 len xs) (hh : sm_L_law_1310 (fun (p1 : Nat) (p2 : Nat) (x3 : Int32) (h : aw_H) => Sat X 18 [.ref 9999, .ref p1, .ref p2, .int x3] [] h) len xs Q p1 p2 x3 h) : Sat X 1310 [.ref 9999, .ref p1, .ref p2, .int x3] [] h := by
  unfold sm_L_law_1310 at hh
  refine ow_aload_n C dL_law_1310 rfl rfl ?_
  refine ow_aload_n C dL_law_1311 rfl rfl ?_
  refine ow_iload_n C dL_law_1312 rfl rfl ?_
  refine ow_iconst (v := 1) C dL_law_1313 rfl ?_
  refine ow_iadd C dL_law_1314 ?_
  refine ow_sld C HX dL_law_1315 hh (fun v1 hh => ?_)
  refine ow_aload_n C dL_law_1316 rfl rfl ?_
  refine ow_iload_n C dL_law_1317 rfl rfl ?_
  refine ow_iconst (v := 2) C dL_law_1318 rfl ?_
  refine ow_iadd C dL_law_1319 ?_
  refine ow_sld C HX dL_law_1320 hh (fun v2 hh => ?_)
  refine ow_aload_n C dL_law_1321 rfl rfl ?_
  refine ow_iload_n C dL_law_1322 rfl rfl ?_
  refine ow_iconst (v := 3) C dL_law_1323 rfl ?_
  refine ow_iadd C dL_law_1324 ?_
  refine ow_sld C HX dL_law_1325 hh (fun v3 hh => ?_)
  refine ow_aload_n C dL_law_1326 rfl rfl ?_
  refine ow_iload_n C dL_law_1327 rfl rfl ?_
  refine ow_iconst (v := 4) C dL_law_1328 rfl ?_
  refine ow_iadd C dL_law_1329 ?_
  refine ow_sld C HX dL_law_1330 hh (fun v4 hh => ?_)
  refine ow_aload_n C dL_law_1331 rfl rfl ?_
  refine ow_iload_n C dL_law_1332 rfl rfl ?_
  refine ow_iconst (v := 5) C dL_law_1333 rfl ?_
  refine ow_iadd C dL_law_1334 ?_
  refine ow_sld C HX dL_law_1335 hh (fun v5 hh => ?_)
  refine ow_callV C (cv_X6_copy _) (Nat.le_of_ble_eq_true rfl) kw_849 dL_law_1336 (as := [.int v1, .int v2, .int v3, .int v4, .int v5]) (st := []) rfl rfl (Nat.le_of_ble_eq_true rfl) hh (fun r7 h6 hq => ?_)
  obtain ⟨v8, rfl, hh⟩ := sr_I_e hq
  show Sat X 1339 [.ref 9999, .ref p1, .ref p2, .int x3] [.int v8] h6
  refine ow_aload_n C dL_law_1339 rfl rfl ?_
  refine ow_aload_n C dL_law_1340 rfl rfl ?_
  refine ow_iload_n C dL_law_1341 rfl rfl ?_
  refine ow_iconst (v := 1) C dL_law_1342 rfl ?_
  refine ow_iadd C dL_law_1343 ?_
  refine ow_sld C HX dL_law_1344 hh (fun v9 hh => ?_)
  refine ow_aload_n C dL_law_1345 rfl rfl ?_
  refine ow_iload_n C dL_law_1346 rfl rfl ?_
  refine ow_iconst (v := 2) C dL_law_1347 rfl ?_
  refine ow_iadd C dL_law_1348 ?_
  refine ow_sld C HX dL_law_1349 hh (fun v10 hh => ?_)
  refine ow_aload_n C dL_law_1350 rfl rfl ?_
  refine ow_iload_n C dL_law_1351 rfl rfl ?_
  refine ow_iconst (v := 3) C dL_law_1352 rfl ?_
  refine ow_iadd C dL_law_1353 ?_
  refine ow_sld C HX dL_law_1354 hh (fun v11 hh => ?_)
  refine ow_aload_n C dL_law_1355 rfl rfl ?_
  refine ow_iload_n C dL_law_1356 rfl rfl ?_
  refine ow_iconst (v := 4) C dL_law_1357 rfl ?_
  refine ow_iadd C dL_law_1358 ?_
  refine ow_sld C HX dL_law_1359 hh (fun v12 hh => ?_)
  refine ow_aload_n C dL_law_1360 rfl rfl ?_
  refine ow_iload_n C dL_law_1361 rfl rfl ?_
  refine ow_iconst (v := 5) C dL_law_1362 rfl ?_
  refine ow_iadd C dL_law_1363 ?_
  refine ow_sld C HX dL_law_1364 hh (fun v13 hh => ?_)
  refine ow_callV C (cv_X7_copy _) (Nat.le_of_ble_eq_true rfl) kw_850 dL_law_1365 (as := [.int v9, .int v10, .int v11, .int v12, .int v13]) (st := [.int v8]) rfl rfl (Nat.le_of_ble_eq_true rfl) hh (fun r15 h14 hq => ?_)
  obtain ⟨v16, rfl, hh⟩ := sr_I_e hq
  show Sat X 1368 [.ref 9999, .ref p1, .ref p2, .int x3] [.int v16, .int v8] h14
  refine ow_icmp_eq (tgt := 1373) C dL_law_1368 (by decide) hh (fun hh => ?_) (fun hh => ?_)
  · skip
    exact Sat.mask (bl_L_law_1373 C Z p1 p2 x3 h14 HX hh) (mk_y (mk_y (mk_y (mk_y mk_0))))
  · skip
    refine ow_iconst (v := 0) C dL_law_1371 rfl ?_
    exact ow_iret Z dL_law_1372 (Or.inl rfl) hh
def sm_L_law_1227 (K18 : Nat → Nat → Int32 → aw_H → Prop) (len : Nat) (xs : Nat → Int32) (Q : aw_R) (p1 : Nat) (p2 : Nat) (x3 : Int32) (h : aw_H) : Prop :=
  sx_I len xs (x3 + 1) fun v1 => sx_I len xs (x3 + 2) fun v2 => sx_I len xs (x3 + 3) fun v3 => sx_I len xs (x3 + 4) fun v4 => sx_I len xs (x3 + 5) fun v5 => sv_O h p1 5 (tr_X6_item [.ref p1, .int v1, .int v2, .int v3, .long (((Int32.toInt64 v4) <<< (Int32.toInt64 32 &&& 63)) ||| ((Int32.toInt64 v5) &&& 4294967295))] h fun r7 h6 => sr_I r7 fun v8 => sx_I len xs (x3 + 1) fun v9 => sx_I len xs (x3 + 2) fun v10 => sx_I len xs (x3 + 3) fun v11 => sx_I len xs (x3 + 4) fun v12 => sx_I len xs (x3 + 5) fun v13 => sv_O h6 p2 6 (tr_X7_item [.ref p2, .int v9, .int v10, .int v11, .long (((Int32.toInt64 v12) <<< (Int32.toInt64 32 &&& 63)) ||| ((Int32.toInt64 v13) &&& 4294967295))] h6 fun r15 h14 => sr_I r15 fun v16 => if v8 = v16 then (sm_L_law_1373 K18 len xs Q p1 p2 x3 h14) else (Q (some (.int 0)) h14)))
set_option maxRecDepth 100000 in
set_option maxHeartbeats 4000000 in
theorem bl_L_law_1227 {len : Nat} {xs : Nat → Int32} {X : aw_X} {Q : aw_R} (C : aw_C X cL_law RL 4 10) (Z : aw_Z X cL_law (some .boolean) Q) (p1 : Nat) (p2 : Nat) (x3 : Int32) (h : aw_H) (HX : aw_S X 9999 len xs) (hh : sm_L_law_1227 (fun (p1 : Nat) (p2 : Nat) (x3 : Int32) (h : aw_H) => Sat X 18 [.ref 9999, .ref p1, .ref p2, .int x3] [] h) len xs Q p1 p2 x3 h) : Sat X 1227 [.ref 9999, .ref p1, .ref p2, .int x3] [] h := by
  unfold sm_L_law_1227 at hh
  refine ow_aload_n C dL_law_1227 rfl rfl ?_
  refine ow_aload_n C dL_law_1228 rfl rfl ?_
  refine ow_iload_n C dL_law_1229 rfl rfl ?_
  refine ow_iconst (v := 1) C dL_law_1230 rfl ?_
  refine ow_iadd C dL_law_1231 ?_
  refine ow_sld C HX dL_law_1232 hh (fun v1 hh => ?_)
  refine ow_aload_n C dL_law_1233 rfl rfl ?_
  refine ow_iload_n C dL_law_1234 rfl rfl ?_
  refine ow_iconst (v := 2) C dL_law_1235 rfl ?_
  refine ow_iadd C dL_law_1236 ?_
  refine ow_sld C HX dL_law_1237 hh (fun v2 hh => ?_)
  refine ow_aload_n C dL_law_1238 rfl rfl ?_
  refine ow_iload_n C dL_law_1239 rfl rfl ?_
  refine ow_iconst (v := 3) C dL_law_1240 rfl ?_
  refine ow_iadd C dL_law_1241 ?_
  refine ow_sld C HX dL_law_1242 hh (fun v3 hh => ?_)
  refine ow_aload_n C dL_law_1243 rfl rfl ?_
  refine ow_iload_n C dL_law_1244 rfl rfl ?_
  refine ow_iconst (v := 4) C dL_law_1245 rfl ?_
  refine ow_iadd C dL_law_1246 ?_
  refine ow_sld C HX dL_law_1247 hh (fun v4 hh => ?_)
  refine ow_i2l C dL_law_1248 ?_
  refine ow_bipush (v := 32) C dL_law_1249 rfl ?_
  refine ow_lshl C dL_law_1251 ?_
  refine ow_aload_n C dL_law_1252 rfl rfl ?_
  refine ow_iload_n C dL_law_1253 rfl rfl ?_
  refine ow_iconst (v := 5) C dL_law_1254 rfl ?_
  refine ow_iadd C dL_law_1255 ?_
  refine ow_sld C HX dL_law_1256 hh (fun v5 hh => ?_)
  refine ow_i2l C dL_law_1257 ?_
  refine ow_ldc2 C kw_851 dL_law_1258 ?_
  refine ow_land C dL_law_1261 ?_
  refine ow_lor C dL_law_1262 ?_
  refine ow_callV C (cv_X6_item _) (Nat.le_of_ble_eq_true rfl) kw_852 dL_law_1263 (as := [.int v1, .int v2, .int v3, .long (((Int32.toInt64 v4) <<< (Int32.toInt64 32 &&& 63)) ||| ((Int32.toInt64 v5) &&& 4294967295))]) (st := []) rfl rfl (Nat.le_of_ble_eq_true rfl) hh (fun r7 h6 hq => ?_)
  obtain ⟨v8, rfl, hh⟩ := sr_I_e hq
  show Sat X 1266 [.ref 9999, .ref p1, .ref p2, .int x3] [.int v8] h6
  refine ow_aload_n C dL_law_1266 rfl rfl ?_
  refine ow_aload_n C dL_law_1267 rfl rfl ?_
  refine ow_iload_n C dL_law_1268 rfl rfl ?_
  refine ow_iconst (v := 1) C dL_law_1269 rfl ?_
  refine ow_iadd C dL_law_1270 ?_
  refine ow_sld C HX dL_law_1271 hh (fun v9 hh => ?_)
  refine ow_aload_n C dL_law_1272 rfl rfl ?_
  refine ow_iload_n C dL_law_1273 rfl rfl ?_
  refine ow_iconst (v := 2) C dL_law_1274 rfl ?_
  refine ow_iadd C dL_law_1275 ?_
  refine ow_sld C HX dL_law_1276 hh (fun v10 hh => ?_)
  refine ow_aload_n C dL_law_1277 rfl rfl ?_
  refine ow_iload_n C dL_law_1278 rfl rfl ?_
  refine ow_iconst (v := 3) C dL_law_1279 rfl ?_
  refine ow_iadd C dL_law_1280 ?_
  refine ow_sld C HX dL_law_1281 hh (fun v11 hh => ?_)
  refine ow_aload_n C dL_law_1282 rfl rfl ?_
  refine ow_iload_n C dL_law_1283 rfl rfl ?_
  refine ow_iconst (v := 4) C dL_law_1284 rfl ?_
  refine ow_iadd C dL_law_1285 ?_
  refine ow_sld C HX dL_law_1286 hh (fun v12 hh => ?_)
  refine ow_i2l C dL_law_1287 ?_
  refine ow_bipush (v := 32) C dL_law_1288 rfl ?_
  refine ow_lshl C dL_law_1290 ?_
  refine ow_aload_n C dL_law_1291 rfl rfl ?_
  refine ow_iload_n C dL_law_1292 rfl rfl ?_
  refine ow_iconst (v := 5) C dL_law_1293 rfl ?_
  refine ow_iadd C dL_law_1294 ?_
  refine ow_sld C HX dL_law_1295 hh (fun v13 hh => ?_)
  refine ow_i2l C dL_law_1296 ?_
  refine ow_ldc2 C kw_851 dL_law_1297 ?_
  refine ow_land C dL_law_1300 ?_
  refine ow_lor C dL_law_1301 ?_
  refine ow_callV C (cv_X7_item _) (Nat.le_of_ble_eq_true rfl) kw_853 dL_law_1302 (as := [.int v9, .int v10, .int v11, .long (((Int32.toInt64 v12) <<< (Int32.toInt64 32 &&& 63)) ||| ((Int32.toInt64 v13) &&& 4294967295))]) (st := [.int v8]) rfl rfl (Nat.le_of_ble_eq_true rfl) hh (fun r15 h14 hq => ?_)
  obtain ⟨v16, rfl, hh⟩ := sr_I_e hq
  show Sat X 1305 [.ref 9999, .ref p1, .ref p2, .int x3] [.int v16, .int v8] h14
  refine ow_icmp_eq (tgt := 1373) C dL_law_1305 (by decide) hh (fun hh => ?_) (fun hh => ?_)
  · skip
    exact Sat.mask (bl_L_law_1373 C Z p1 p2 x3 h14 HX hh) (mk_y (mk_y (mk_y (mk_y mk_0))))
  · skip
    refine ow_iconst (v := 0) C dL_law_1308 rfl ?_
    exact ow_iret Z dL_law_1309 (Or.inl rfl) hh
def sm_L_law_1204 (K18 : Nat → Nat → Int32 → aw_H → Prop) (len : Nat) (xs : Nat → Int32) (Q : aw_R) (p1 : Nat) (p2 : Nat) (x3 : Int32) (h : aw_H) : Prop :=
  sx_I len xs (x3 + 1) fun v1 => sv_O h p1 5 (tr_X6_drop [.ref p1, .int v1] h fun r3 h2 => sr_I r3 fun v4 => sx_I len xs (x3 + 1) fun v5 => sv_O h2 p2 6 (tr_X7_drop [.ref p2, .int v5] h2 fun r7 h6 => sr_I r7 fun v8 => if v4 = v8 then (sm_L_law_1373 K18 len xs Q p1 p2 x3 h6) else (Q (some (.int 0)) h6)))
set_option maxRecDepth 100000 in
set_option maxHeartbeats 4000000 in
theorem bl_L_law_1204 {len : Nat} {xs : Nat → Int32} {X : aw_X} {Q : aw_R} (C : aw_C X cL_law RL 4 10) (Z : aw_Z X cL_law (some .boolean) Q) (p1 : Nat) (p2 : Nat) (x3 : Int32) (h : aw_H) (HX : aw_S X 9999 len xs) (hh : sm_L_law_1204 (fun (p1 : Nat) (p2 : Nat) (x3 : Int32) (h : aw_H) => Sat X 18 [.ref 9999, .ref p1, .ref p2, .int x3] [] h) len xs Q p1 p2 x3 h) : Sat X 1204 [.ref 9999, .ref p1, .ref p2, .int x3] [] h := by
  unfold sm_L_law_1204 at hh
  refine ow_aload_n C dL_law_1204 rfl rfl ?_
  refine ow_aload_n C dL_law_1205 rfl rfl ?_
  refine ow_iload_n C dL_law_1206 rfl rfl ?_
  refine ow_iconst (v := 1) C dL_law_1207 rfl ?_
  refine ow_iadd C dL_law_1208 ?_
  refine ow_sld C HX dL_law_1209 hh (fun v1 hh => ?_)
  refine ow_callV C (cv_X6_drop _) (Nat.le_of_ble_eq_true rfl) kw_854 dL_law_1210 (as := [.int v1]) (st := []) rfl rfl (Nat.le_of_ble_eq_true rfl) hh (fun r3 h2 hq => ?_)
  obtain ⟨v4, rfl, hh⟩ := sr_I_e hq
  show Sat X 1213 [.ref 9999, .ref p1, .ref p2, .int x3] [.int v4] h2
  refine ow_aload_n C dL_law_1213 rfl rfl ?_
  refine ow_aload_n C dL_law_1214 rfl rfl ?_
  refine ow_iload_n C dL_law_1215 rfl rfl ?_
  refine ow_iconst (v := 1) C dL_law_1216 rfl ?_
  refine ow_iadd C dL_law_1217 ?_
  refine ow_sld C HX dL_law_1218 hh (fun v5 hh => ?_)
  refine ow_callV C (cv_X7_drop _) (Nat.le_of_ble_eq_true rfl) kw_855 dL_law_1219 (as := [.int v5]) (st := [.int v4]) rfl rfl (Nat.le_of_ble_eq_true rfl) hh (fun r7 h6 hq => ?_)
  obtain ⟨v8, rfl, hh⟩ := sr_I_e hq
  show Sat X 1222 [.ref 9999, .ref p1, .ref p2, .int x3] [.int v8, .int v4] h6
  refine ow_icmp_eq (tgt := 1373) C dL_law_1222 (by decide) hh (fun hh => ?_) (fun hh => ?_)
  · skip
    exact Sat.mask (bl_L_law_1373 C Z p1 p2 x3 h6 HX hh) (mk_y (mk_y (mk_y (mk_y mk_0))))
  · skip
    refine ow_iconst (v := 0) C dL_law_1225 rfl ?_
    exact ow_iret Z dL_law_1226 (Or.inl rfl) hh
def sm_L_law_1161 (K18 : Nat → Nat → Int32 → aw_H → Prop) (len : Nat) (xs : Nat → Int32) (Q : aw_R) (p1 : Nat) (p2 : Nat) (x3 : Int32) (h : aw_H) : Prop :=
  sx_I len xs (x3 + 1) fun v1 => sx_I len xs (x3 + 2) fun v2 => sx_I len xs (x3 + 3) fun v3 => sv_O h p1 5 (tr_X6_sheet [.ref p1, .int v1, .int v2, .int v3] h fun r5 h4 => sr_I r5 fun v6 => sx_I len xs (x3 + 1) fun v7 => sx_I len xs (x3 + 2) fun v8 => sx_I len xs (x3 + 3) fun v9 => sv_O h4 p2 6 (tr_X7_sheet [.ref p2, .int v7, .int v8, .int v9] h4 fun r11 h10 => sr_I r11 fun v12 => if v6 = v12 then (sm_L_law_1373 K18 len xs Q p1 p2 x3 h10) else (Q (some (.int 0)) h10)))
set_option maxRecDepth 100000 in
set_option maxHeartbeats 4000000 in
theorem bl_L_law_1161 {len : Nat} {xs : Nat → Int32} {X : aw_X} {Q : aw_R} (C : aw_C X cL_law RL 4 10) (Z : aw_Z X cL_law (some .boolean) Q) (p1 : Nat) (p2 : Nat) (x3 : Int32) (h : aw_H) (HX : aw_S X 9999 len xs) (hh : sm_L_law_1161 (fun (p1 : Nat) (p2 : Nat) (x3 : Int32) (h : aw_H) => Sat X 18 [.ref 9999, .ref p1, .ref p2, .int x3] [] h) len xs Q p1 p2 x3 h) : Sat X 1161 [.ref 9999, .ref p1, .ref p2, .int x3] [] h := by
  unfold sm_L_law_1161 at hh
  refine ow_aload_n C dL_law_1161 rfl rfl ?_
  refine ow_aload_n C dL_law_1162 rfl rfl ?_
  refine ow_iload_n C dL_law_1163 rfl rfl ?_
  refine ow_iconst (v := 1) C dL_law_1164 rfl ?_
  refine ow_iadd C dL_law_1165 ?_
  refine ow_sld C HX dL_law_1166 hh (fun v1 hh => ?_)
  refine ow_aload_n C dL_law_1167 rfl rfl ?_
  refine ow_iload_n C dL_law_1168 rfl rfl ?_
  refine ow_iconst (v := 2) C dL_law_1169 rfl ?_
  refine ow_iadd C dL_law_1170 ?_
  refine ow_sld C HX dL_law_1171 hh (fun v2 hh => ?_)
  refine ow_aload_n C dL_law_1172 rfl rfl ?_
  refine ow_iload_n C dL_law_1173 rfl rfl ?_
  refine ow_iconst (v := 3) C dL_law_1174 rfl ?_
  refine ow_iadd C dL_law_1175 ?_
  refine ow_sld C HX dL_law_1176 hh (fun v3 hh => ?_)
  refine ow_callV C (cv_X6_sheet _) (Nat.le_of_ble_eq_true rfl) kw_856 dL_law_1177 (as := [.int v1, .int v2, .int v3]) (st := []) rfl rfl (Nat.le_of_ble_eq_true rfl) hh (fun r5 h4 hq => ?_)
  obtain ⟨v6, rfl, hh⟩ := sr_I_e hq
  show Sat X 1180 [.ref 9999, .ref p1, .ref p2, .int x3] [.int v6] h4
  refine ow_aload_n C dL_law_1180 rfl rfl ?_
  refine ow_aload_n C dL_law_1181 rfl rfl ?_
  refine ow_iload_n C dL_law_1182 rfl rfl ?_
  refine ow_iconst (v := 1) C dL_law_1183 rfl ?_
  refine ow_iadd C dL_law_1184 ?_
  refine ow_sld C HX dL_law_1185 hh (fun v7 hh => ?_)
  refine ow_aload_n C dL_law_1186 rfl rfl ?_
  refine ow_iload_n C dL_law_1187 rfl rfl ?_
  refine ow_iconst (v := 2) C dL_law_1188 rfl ?_
  refine ow_iadd C dL_law_1189 ?_
  refine ow_sld C HX dL_law_1190 hh (fun v8 hh => ?_)
  refine ow_aload_n C dL_law_1191 rfl rfl ?_
  refine ow_iload_n C dL_law_1192 rfl rfl ?_
  refine ow_iconst (v := 3) C dL_law_1193 rfl ?_
  refine ow_iadd C dL_law_1194 ?_
  refine ow_sld C HX dL_law_1195 hh (fun v9 hh => ?_)
  refine ow_callV C (cv_X7_sheet _) (Nat.le_of_ble_eq_true rfl) kw_857 dL_law_1196 (as := [.int v7, .int v8, .int v9]) (st := [.int v6]) rfl rfl (Nat.le_of_ble_eq_true rfl) hh (fun r11 h10 hq => ?_)
  obtain ⟨v12, rfl, hh⟩ := sr_I_e hq
  show Sat X 1199 [.ref 9999, .ref p1, .ref p2, .int x3] [.int v12, .int v6] h10
  refine ow_icmp_eq (tgt := 1373) C dL_law_1199 (by decide) hh (fun hh => ?_) (fun hh => ?_)
  · skip
    exact Sat.mask (bl_L_law_1373 C Z p1 p2 x3 h10 HX hh) (mk_y (mk_y (mk_y (mk_y mk_0))))
  · skip
    refine ow_iconst (v := 0) C dL_law_1202 rfl ?_
    exact ow_iret Z dL_law_1203 (Or.inl rfl) hh
def sm_L_law_1098 (K18 : Nat → Nat → Int32 → aw_H → Prop) (len : Nat) (xs : Nat → Int32) (Q : aw_R) (p1 : Nat) (p2 : Nat) (x3 : Int32) (h : aw_H) : Prop :=
  sx_I len xs (x3 + 1) fun v1 => sx_I len xs (x3 + 2) fun v2 => sx_I len xs (x3 + 3) fun v3 => sx_I len xs (x3 + 4) fun v4 => sx_I len xs (x3 + 5) fun v5 => sv_O h p1 5 (tr_X6_film [.ref p1, .int v1, .int v2, .int v3, .int v4, .int v5] h fun r7 h6 => sr_I r7 fun v8 => sx_I len xs (x3 + 1) fun v9 => sx_I len xs (x3 + 2) fun v10 => sx_I len xs (x3 + 3) fun v11 => sx_I len xs (x3 + 4) fun v12 => sx_I len xs (x3 + 5) fun v13 => sv_O h6 p2 6 (tr_X7_film [.ref p2, .int v9, .int v10, .int v11, .int v12, .int v13] h6 fun r15 h14 => sr_I r15 fun v16 => if v8 = v16 then (sm_L_law_1373 K18 len xs Q p1 p2 x3 h14) else (Q (some (.int 0)) h14)))
set_option maxRecDepth 100000 in
set_option maxHeartbeats 4000000 in
theorem bl_L_law_1098 {len : Nat} {xs : Nat → Int32} {X : aw_X} {Q : aw_R} (C : aw_C X cL_law RL 4 10) (Z : aw_Z X cL_law (some .boolean) Q) (p1 : Nat) (p2 : Nat) (x3 : Int32) (h : aw_H) (HX : aw_S X 9999 len xs) (hh : sm_L_law_1098 (fun (p1 : Nat) (p2 : Nat) (x3 : Int32) (h : aw_H) => Sat X 18 [.ref 9999, .ref p1, .ref p2, .int x3] [] h) len xs Q p1 p2 x3 h) : Sat X 1098 [.ref 9999, .ref p1, .ref p2, .int x3] [] h := by
  unfold sm_L_law_1098 at hh
  refine ow_aload_n C dL_law_1098 rfl rfl ?_
  refine ow_aload_n C dL_law_1099 rfl rfl ?_
  refine ow_iload_n C dL_law_1100 rfl rfl ?_
  refine ow_iconst (v := 1) C dL_law_1101 rfl ?_
  refine ow_iadd C dL_law_1102 ?_
  refine ow_sld C HX dL_law_1103 hh (fun v1 hh => ?_)
  refine ow_aload_n C dL_law_1104 rfl rfl ?_
  refine ow_iload_n C dL_law_1105 rfl rfl ?_
  refine ow_iconst (v := 2) C dL_law_1106 rfl ?_
  refine ow_iadd C dL_law_1107 ?_
  refine ow_sld C HX dL_law_1108 hh (fun v2 hh => ?_)
  refine ow_aload_n C dL_law_1109 rfl rfl ?_
  refine ow_iload_n C dL_law_1110 rfl rfl ?_
  refine ow_iconst (v := 3) C dL_law_1111 rfl ?_
  refine ow_iadd C dL_law_1112 ?_
  refine ow_sld C HX dL_law_1113 hh (fun v3 hh => ?_)
  refine ow_aload_n C dL_law_1114 rfl rfl ?_
  refine ow_iload_n C dL_law_1115 rfl rfl ?_
  refine ow_iconst (v := 4) C dL_law_1116 rfl ?_
  refine ow_iadd C dL_law_1117 ?_
  refine ow_sld C HX dL_law_1118 hh (fun v4 hh => ?_)
  refine ow_aload_n C dL_law_1119 rfl rfl ?_
  refine ow_iload_n C dL_law_1120 rfl rfl ?_
  refine ow_iconst (v := 5) C dL_law_1121 rfl ?_
  refine ow_iadd C dL_law_1122 ?_
  refine ow_sld C HX dL_law_1123 hh (fun v5 hh => ?_)
  refine ow_callV C (cv_X6_film _) (Nat.le_of_ble_eq_true rfl) kw_858 dL_law_1124 (as := [.int v1, .int v2, .int v3, .int v4, .int v5]) (st := []) rfl rfl (Nat.le_of_ble_eq_true rfl) hh (fun r7 h6 hq => ?_)
  obtain ⟨v8, rfl, hh⟩ := sr_I_e hq
  show Sat X 1127 [.ref 9999, .ref p1, .ref p2, .int x3] [.int v8] h6
  refine ow_aload_n C dL_law_1127 rfl rfl ?_
  refine ow_aload_n C dL_law_1128 rfl rfl ?_
  refine ow_iload_n C dL_law_1129 rfl rfl ?_
  refine ow_iconst (v := 1) C dL_law_1130 rfl ?_
  refine ow_iadd C dL_law_1131 ?_
  refine ow_sld C HX dL_law_1132 hh (fun v9 hh => ?_)
  refine ow_aload_n C dL_law_1133 rfl rfl ?_
  refine ow_iload_n C dL_law_1134 rfl rfl ?_
  refine ow_iconst (v := 2) C dL_law_1135 rfl ?_
  refine ow_iadd C dL_law_1136 ?_
  refine ow_sld C HX dL_law_1137 hh (fun v10 hh => ?_)
  refine ow_aload_n C dL_law_1138 rfl rfl ?_
  refine ow_iload_n C dL_law_1139 rfl rfl ?_
  refine ow_iconst (v := 3) C dL_law_1140 rfl ?_
  refine ow_iadd C dL_law_1141 ?_
  refine ow_sld C HX dL_law_1142 hh (fun v11 hh => ?_)
  refine ow_aload_n C dL_law_1143 rfl rfl ?_
  refine ow_iload_n C dL_law_1144 rfl rfl ?_
  refine ow_iconst (v := 4) C dL_law_1145 rfl ?_
  refine ow_iadd C dL_law_1146 ?_
  refine ow_sld C HX dL_law_1147 hh (fun v12 hh => ?_)
  refine ow_aload_n C dL_law_1148 rfl rfl ?_
  refine ow_iload_n C dL_law_1149 rfl rfl ?_
  refine ow_iconst (v := 5) C dL_law_1150 rfl ?_
  refine ow_iadd C dL_law_1151 ?_
  refine ow_sld C HX dL_law_1152 hh (fun v13 hh => ?_)
  refine ow_callV C (cv_X7_film _) (Nat.le_of_ble_eq_true rfl) kw_859 dL_law_1153 (as := [.int v9, .int v10, .int v11, .int v12, .int v13]) (st := [.int v8]) rfl rfl (Nat.le_of_ble_eq_true rfl) hh (fun r15 h14 hq => ?_)
  obtain ⟨v16, rfl, hh⟩ := sr_I_e hq
  show Sat X 1156 [.ref 9999, .ref p1, .ref p2, .int x3] [.int v16, .int v8] h14
  refine ow_icmp_eq (tgt := 1373) C dL_law_1156 (by decide) hh (fun hh => ?_) (fun hh => ?_)
  · skip
    exact Sat.mask (bl_L_law_1373 C Z p1 p2 x3 h14 HX hh) (mk_y (mk_y (mk_y (mk_y mk_0))))
  · skip
    refine ow_iconst (v := 0) C dL_law_1159 rfl ?_
    exact ow_iret Z dL_law_1160 (Or.inl rfl) hh
def sm_L_law_1023 (K18 : Nat → Nat → Int32 → aw_H → Prop) (len : Nat) (xs : Nat → Int32) (Q : aw_R) (p1 : Nat) (p2 : Nat) (x3 : Int32) (h : aw_H) : Prop :=
  sx_I len xs (x3 + 1) fun v1 => sx_I len xs (x3 + 2) fun v2 => sx_I len xs (x3 + 3) fun v3 => sx_I len xs (x3 + 4) fun v4 => sx_I len xs (x3 + 5) fun v5 => sx_I len xs (x3 + 6) fun v6 => sv_O h p1 5 (tr_X6_came [.ref p1, .int v1, .int v2, .int v3, .int v4, .int v5, .int v6] h fun r8 h7 => sr_I r8 fun v9 => sx_I len xs (x3 + 1) fun v10 => sx_I len xs (x3 + 2) fun v11 => sx_I len xs (x3 + 3) fun v12 => sx_I len xs (x3 + 4) fun v13 => sx_I len xs (x3 + 5) fun v14 => sx_I len xs (x3 + 6) fun v15 => sv_O h7 p2 6 (tr_X7_came [.ref p2, .int v10, .int v11, .int v12, .int v13, .int v14, .int v15] h7 fun r17 h16 => sr_I r17 fun v18 => if v9 = v18 then (sm_L_law_1373 K18 len xs Q p1 p2 x3 h16) else (Q (some (.int 0)) h16)))
set_option maxRecDepth 100000 in
set_option maxHeartbeats 4000000 in
theorem bl_L_law_1023 {len : Nat} {xs : Nat → Int32} {X : aw_X} {Q : aw_R} (C : aw_C X cL_law RL 4 10) (Z : aw_Z X cL_law (some .boolean) Q) (p1 : Nat) (p2 : Nat) (x3 : Int32) (h : aw_H) (HX : aw_S X 9999 len xs) (hh : sm_L_law_1023 (fun (p1 : Nat) (p2 : Nat) (x3 : Int32) (h : aw_H) => Sat X 18 [.ref 9999, .ref p1, .ref p2, .int x3] [] h) len xs Q p1 p2 x3 h) : Sat X 1023 [.ref 9999, .ref p1, .ref p2, .int x3] [] h := by
  unfold sm_L_law_1023 at hh
  refine ow_aload_n C dL_law_1023 rfl rfl ?_
  refine ow_aload_n C dL_law_1024 rfl rfl ?_
  refine ow_iload_n C dL_law_1025 rfl rfl ?_
  refine ow_iconst (v := 1) C dL_law_1026 rfl ?_
  refine ow_iadd C dL_law_1027 ?_
  refine ow_sld C HX dL_law_1028 hh (fun v1 hh => ?_)
  refine ow_aload_n C dL_law_1029 rfl rfl ?_
  refine ow_iload_n C dL_law_1030 rfl rfl ?_
  refine ow_iconst (v := 2) C dL_law_1031 rfl ?_
  refine ow_iadd C dL_law_1032 ?_
  refine ow_sld C HX dL_law_1033 hh (fun v2 hh => ?_)
  refine ow_aload_n C dL_law_1034 rfl rfl ?_
  refine ow_iload_n C dL_law_1035 rfl rfl ?_
  refine ow_iconst (v := 3) C dL_law_1036 rfl ?_
  refine ow_iadd C dL_law_1037 ?_
  refine ow_sld C HX dL_law_1038 hh (fun v3 hh => ?_)
  refine ow_aload_n C dL_law_1039 rfl rfl ?_
  refine ow_iload_n C dL_law_1040 rfl rfl ?_
  refine ow_iconst (v := 4) C dL_law_1041 rfl ?_
  refine ow_iadd C dL_law_1042 ?_
  refine ow_sld C HX dL_law_1043 hh (fun v4 hh => ?_)
  refine ow_aload_n C dL_law_1044 rfl rfl ?_
  refine ow_iload_n C dL_law_1045 rfl rfl ?_
  refine ow_iconst (v := 5) C dL_law_1046 rfl ?_
  refine ow_iadd C dL_law_1047 ?_
  refine ow_sld C HX dL_law_1048 hh (fun v5 hh => ?_)
  refine ow_aload_n C dL_law_1049 rfl rfl ?_
  refine ow_iload_n C dL_law_1050 rfl rfl ?_
  refine ow_bipush (v := 6) C dL_law_1051 rfl ?_
  refine ow_iadd C dL_law_1053 ?_
  refine ow_sld C HX dL_law_1054 hh (fun v6 hh => ?_)
  refine ow_callV C (cv_X6_came _) (Nat.le_of_ble_eq_true rfl) kw_860 dL_law_1055 (as := [.int v1, .int v2, .int v3, .int v4, .int v5, .int v6]) (st := []) rfl rfl (Nat.le_of_ble_eq_true rfl) hh (fun r8 h7 hq => ?_)
  obtain ⟨v9, rfl, hh⟩ := sr_I_e hq
  show Sat X 1058 [.ref 9999, .ref p1, .ref p2, .int x3] [.int v9] h7
  refine ow_aload_n C dL_law_1058 rfl rfl ?_
  refine ow_aload_n C dL_law_1059 rfl rfl ?_
  refine ow_iload_n C dL_law_1060 rfl rfl ?_
  refine ow_iconst (v := 1) C dL_law_1061 rfl ?_
  refine ow_iadd C dL_law_1062 ?_
  refine ow_sld C HX dL_law_1063 hh (fun v10 hh => ?_)
  refine ow_aload_n C dL_law_1064 rfl rfl ?_
  refine ow_iload_n C dL_law_1065 rfl rfl ?_
  refine ow_iconst (v := 2) C dL_law_1066 rfl ?_
  refine ow_iadd C dL_law_1067 ?_
  refine ow_sld C HX dL_law_1068 hh (fun v11 hh => ?_)
  refine ow_aload_n C dL_law_1069 rfl rfl ?_
  refine ow_iload_n C dL_law_1070 rfl rfl ?_
  refine ow_iconst (v := 3) C dL_law_1071 rfl ?_
  refine ow_iadd C dL_law_1072 ?_
  refine ow_sld C HX dL_law_1073 hh (fun v12 hh => ?_)
  refine ow_aload_n C dL_law_1074 rfl rfl ?_
  refine ow_iload_n C dL_law_1075 rfl rfl ?_
  refine ow_iconst (v := 4) C dL_law_1076 rfl ?_
  refine ow_iadd C dL_law_1077 ?_
  refine ow_sld C HX dL_law_1078 hh (fun v13 hh => ?_)
  refine ow_aload_n C dL_law_1079 rfl rfl ?_
  refine ow_iload_n C dL_law_1080 rfl rfl ?_
  refine ow_iconst (v := 5) C dL_law_1081 rfl ?_
  refine ow_iadd C dL_law_1082 ?_
  refine ow_sld C HX dL_law_1083 hh (fun v14 hh => ?_)
  refine ow_aload_n C dL_law_1084 rfl rfl ?_
  refine ow_iload_n C dL_law_1085 rfl rfl ?_
  refine ow_bipush (v := 6) C dL_law_1086 rfl ?_
  refine ow_iadd C dL_law_1088 ?_
  refine ow_sld C HX dL_law_1089 hh (fun v15 hh => ?_)
  refine ow_callV C (cv_X7_came _) (Nat.le_of_ble_eq_true rfl) kw_861 dL_law_1090 (as := [.int v10, .int v11, .int v12, .int v13, .int v14, .int v15]) (st := [.int v9]) rfl rfl (Nat.le_of_ble_eq_true rfl) hh (fun r17 h16 hq => ?_)
  obtain ⟨v18, rfl, hh⟩ := sr_I_e hq
  show Sat X 1093 [.ref 9999, .ref p1, .ref p2, .int x3] [.int v18, .int v9] h16
  refine ow_icmp_eq (tgt := 1373) C dL_law_1093 (by decide) hh (fun hh => ?_) (fun hh => ?_)
  · skip
    exact Sat.mask (bl_L_law_1373 C Z p1 p2 x3 h16 HX hh) (mk_y (mk_y (mk_y (mk_y mk_0))))
  · skip
    refine ow_iconst (v := 0) C dL_law_1096 rfl ?_
    exact ow_iret Z dL_law_1097 (Or.inl rfl) hh
def sm_L_law_1010 (K18 : Nat → Nat → Int32 → aw_H → Prop) (len : Nat) (xs : Nat → Int32) (Q : aw_R) (p1 : Nat) (p2 : Nat) (x3 : Int32) (h : aw_H) : Prop :=
  sv_O h p1 5 (tr_X6_restore [.ref p1] h fun r2 h1 => sr_I r2 fun v3 => sv_O h1 p2 6 (tr_X7_restore [.ref p2] h1 fun r5 h4 => sr_I r5 fun v6 => if v3 = v6 then (sm_L_law_1373 K18 len xs Q p1 p2 x3 h4) else (Q (some (.int 0)) h4)))
set_option maxRecDepth 100000 in
set_option maxHeartbeats 4000000 in
theorem bl_L_law_1010 {len : Nat} {xs : Nat → Int32} {X : aw_X} {Q : aw_R} (C : aw_C X cL_law RL 4 10) (Z : aw_Z X cL_law (some .boolean) Q) (p1 : Nat) (p2 : Nat) (x3 : Int32) (h : aw_H) (HX : aw_S X 9999 len xs) (hh : sm_L_law_1010 (fun (p1 : Nat) (p2 : Nat) (x3 : Int32) (h : aw_H) => Sat X 18 [.ref 9999, .ref p1, .ref p2, .int x3] [] h) len xs Q p1 p2 x3 h) : Sat X 1010 [.ref 9999, .ref p1, .ref p2, .int x3] [] h := by
  unfold sm_L_law_1010 at hh
  refine ow_aload_n C dL_law_1010 rfl rfl ?_
  refine ow_callV C (cv_X6_restore _) (Nat.le_of_ble_eq_true rfl) kw_862 dL_law_1011 (as := []) (st := []) rfl rfl (Nat.le_of_ble_eq_true rfl) hh (fun r2 h1 hq => ?_)
  obtain ⟨v3, rfl, hh⟩ := sr_I_e hq
  show Sat X 1014 [.ref 9999, .ref p1, .ref p2, .int x3] [.int v3] h1
  refine ow_aload_n C dL_law_1014 rfl rfl ?_
  refine ow_callV C (cv_X7_restore _) (Nat.le_of_ble_eq_true rfl) kw_863 dL_law_1015 (as := []) (st := [.int v3]) rfl rfl (Nat.le_of_ble_eq_true rfl) hh (fun r5 h4 hq => ?_)
  obtain ⟨v6, rfl, hh⟩ := sr_I_e hq
  show Sat X 1018 [.ref 9999, .ref p1, .ref p2, .int x3] [.int v6, .int v3] h4
  refine ow_icmp_eq (tgt := 1373) C dL_law_1018 (by decide) hh (fun hh => ?_) (fun hh => ?_)
  · skip
    exact Sat.mask (bl_L_law_1373 C Z p1 p2 x3 h4 HX hh) (mk_y (mk_y (mk_y (mk_y mk_0))))
  · skip
    refine ow_iconst (v := 0) C dL_law_1021 rfl ?_
    exact ow_iret Z dL_law_1022 (Or.inl rfl) hh
def sm_L_law_997 (K18 : Nat → Nat → Int32 → aw_H → Prop) (len : Nat) (xs : Nat → Int32) (Q : aw_R) (p1 : Nat) (p2 : Nat) (x3 : Int32) (h : aw_H) : Prop :=
  sv_O h p1 5 (tr_X6_image [.ref p1] h fun r2 h1 => sr_I r2 fun v3 => sv_O h1 p2 6 (tr_X7_image [.ref p2] h1 fun r5 h4 => sr_I r5 fun v6 => if v3 = v6 then (sm_L_law_1373 K18 len xs Q p1 p2 x3 h4) else (Q (some (.int 0)) h4)))
set_option maxRecDepth 100000 in
set_option maxHeartbeats 4000000 in
theorem bl_L_law_997 {len : Nat} {xs : Nat → Int32} {X : aw_X} {Q : aw_R} (C : aw_C X cL_law RL 4 10) (Z : aw_Z X cL_law (some .boolean) Q) (p1 : Nat) (p2 : Nat) (x3 : Int32) (h : aw_H) (HX : aw_S X 9999 len xs) (hh : sm_L_law_997 (fun (p1 : Nat) (p2 : Nat) (x3 : Int32) (h : aw_H) => Sat X 18 [.ref 9999, .ref p1, .ref p2, .int x3] [] h) len xs Q p1 p2 x3 h) : Sat X 997 [.ref 9999, .ref p1, .ref p2, .int x3] [] h := by
  unfold sm_L_law_997 at hh
  refine ow_aload_n C dL_law_997 rfl rfl ?_
  refine ow_callV C (cv_X6_image _) (Nat.le_of_ble_eq_true rfl) kw_864 dL_law_998 (as := []) (st := []) rfl rfl (Nat.le_of_ble_eq_true rfl) hh (fun r2 h1 hq => ?_)
  obtain ⟨v3, rfl, hh⟩ := sr_I_e hq
  show Sat X 1001 [.ref 9999, .ref p1, .ref p2, .int x3] [.int v3] h1
  refine ow_aload_n C dL_law_1001 rfl rfl ?_
  refine ow_callV C (cv_X7_image _) (Nat.le_of_ble_eq_true rfl) kw_865 dL_law_1002 (as := []) (st := [.int v3]) rfl rfl (Nat.le_of_ble_eq_true rfl) hh (fun r5 h4 hq => ?_)
  obtain ⟨v6, rfl, hh⟩ := sr_I_e hq
  show Sat X 1005 [.ref 9999, .ref p1, .ref p2, .int x3] [.int v6, .int v3] h4
  refine ow_icmp_eq (tgt := 1373) C dL_law_1005 (by decide) hh (fun hh => ?_) (fun hh => ?_)
  · skip
    exact Sat.mask (bl_L_law_1373 C Z p1 p2 x3 h4 HX hh) (mk_y (mk_y (mk_y (mk_y mk_0))))
  · skip
    refine ow_iconst (v := 0) C dL_law_1008 rfl ?_
    exact ow_iret Z dL_law_1009 (Or.inl rfl) hh
def sm_L_law_954 (K18 : Nat → Nat → Int32 → aw_H → Prop) (len : Nat) (xs : Nat → Int32) (Q : aw_R) (p1 : Nat) (p2 : Nat) (x3 : Int32) (h : aw_H) : Prop :=
  sx_I len xs (x3 + 1) fun v1 => sx_I len xs (x3 + 2) fun v2 => sx_I len xs (x3 + 3) fun v3 => sv_O h p1 5 (tr_X6_likely [.ref p1, .int v1, .int v2, .int v3] h fun r5 h4 => sr_I r5 fun v6 => sx_I len xs (x3 + 1) fun v7 => sx_I len xs (x3 + 2) fun v8 => sx_I len xs (x3 + 3) fun v9 => sv_O h4 p2 6 (tr_X7_likely [.ref p2, .int v7, .int v8, .int v9] h4 fun r11 h10 => sr_I r11 fun v12 => if v6 = v12 then (sm_L_law_1373 K18 len xs Q p1 p2 x3 h10) else (Q (some (.int 0)) h10)))
set_option maxRecDepth 100000 in
set_option maxHeartbeats 4000000 in
theorem bl_L_law_954 {len : Nat} {xs : Nat → Int32} {X : aw_X} {Q : aw_R} (C : aw_C X cL_law RL 4 10) (Z : aw_Z X cL_law (some .boolean) Q) (p1 : Nat) (p2 : Nat) (x3 : Int32) (h : aw_H) (HX : aw_S X 9999 len xs) (hh : sm_L_law_954 (fun (p1 : Nat) (p2 : Nat) (x3 : Int32) (h : aw_H) => Sat X 18 [.ref 9999, .ref p1, .ref p2, .int x3] [] h) len xs Q p1 p2 x3 h) : Sat X 954 [.ref 9999, .ref p1, .ref p2, .int x3] [] h := by
  unfold sm_L_law_954 at hh
  refine ow_aload_n C dL_law_954 rfl rfl ?_
  refine ow_aload_n C dL_law_955 rfl rfl ?_
  refine ow_iload_n C dL_law_956 rfl rfl ?_
  refine ow_iconst (v := 1) C dL_law_957 rfl ?_
  refine ow_iadd C dL_law_958 ?_
  refine ow_sld C HX dL_law_959 hh (fun v1 hh => ?_)
  refine ow_aload_n C dL_law_960 rfl rfl ?_
  refine ow_iload_n C dL_law_961 rfl rfl ?_
  refine ow_iconst (v := 2) C dL_law_962 rfl ?_
  refine ow_iadd C dL_law_963 ?_
  refine ow_sld C HX dL_law_964 hh (fun v2 hh => ?_)
  refine ow_aload_n C dL_law_965 rfl rfl ?_
  refine ow_iload_n C dL_law_966 rfl rfl ?_
  refine ow_iconst (v := 3) C dL_law_967 rfl ?_
  refine ow_iadd C dL_law_968 ?_
  refine ow_sld C HX dL_law_969 hh (fun v3 hh => ?_)
  refine ow_callV C (cv_X6_likely _) (Nat.le_of_ble_eq_true rfl) kw_866 dL_law_970 (as := [.int v1, .int v2, .int v3]) (st := []) rfl rfl (Nat.le_of_ble_eq_true rfl) hh (fun r5 h4 hq => ?_)
  obtain ⟨v6, rfl, hh⟩ := sr_I_e hq
  show Sat X 973 [.ref 9999, .ref p1, .ref p2, .int x3] [.int v6] h4
  refine ow_aload_n C dL_law_973 rfl rfl ?_
  refine ow_aload_n C dL_law_974 rfl rfl ?_
  refine ow_iload_n C dL_law_975 rfl rfl ?_
  refine ow_iconst (v := 1) C dL_law_976 rfl ?_
  refine ow_iadd C dL_law_977 ?_
  refine ow_sld C HX dL_law_978 hh (fun v7 hh => ?_)
  refine ow_aload_n C dL_law_979 rfl rfl ?_
  refine ow_iload_n C dL_law_980 rfl rfl ?_
  refine ow_iconst (v := 2) C dL_law_981 rfl ?_
  refine ow_iadd C dL_law_982 ?_
  refine ow_sld C HX dL_law_983 hh (fun v8 hh => ?_)
  refine ow_aload_n C dL_law_984 rfl rfl ?_
  refine ow_iload_n C dL_law_985 rfl rfl ?_
  refine ow_iconst (v := 3) C dL_law_986 rfl ?_
  refine ow_iadd C dL_law_987 ?_
  refine ow_sld C HX dL_law_988 hh (fun v9 hh => ?_)
  refine ow_callV C (cv_X7_likely _) (Nat.le_of_ble_eq_true rfl) kw_867 dL_law_989 (as := [.int v7, .int v8, .int v9]) (st := [.int v6]) rfl rfl (Nat.le_of_ble_eq_true rfl) hh (fun r11 h10 hq => ?_)
  obtain ⟨v12, rfl, hh⟩ := sr_I_e hq
  show Sat X 992 [.ref 9999, .ref p1, .ref p2, .int x3] [.int v12, .int v6] h10
  refine ow_icmp_eq (tgt := 1373) C dL_law_992 (by decide) hh (fun hh => ?_) (fun hh => ?_)
  · skip
    exact Sat.mask (bl_L_law_1373 C Z p1 p2 x3 h10 HX hh) (mk_y (mk_y (mk_y (mk_y mk_0))))
  · skip
    refine ow_iconst (v := 0) C dL_law_995 rfl ?_
    exact ow_iret Z dL_law_996 (Or.inl rfl) hh
def sm_L_law_931 (K18 : Nat → Nat → Int32 → aw_H → Prop) (len : Nat) (xs : Nat → Int32) (Q : aw_R) (p1 : Nat) (p2 : Nat) (x3 : Int32) (h : aw_H) : Prop :=
  sx_I len xs (x3 + 1) fun v1 => sv_O h p1 5 (tr_X6_telling [.ref p1, .int v1] h fun r3 h2 => sr_I r3 fun v4 => sx_I len xs (x3 + 1) fun v5 => sv_O h2 p2 6 (tr_X7_telling [.ref p2, .int v5] h2 fun r7 h6 => sr_I r7 fun v8 => if v4 = v8 then (sm_L_law_1373 K18 len xs Q p1 p2 x3 h6) else (Q (some (.int 0)) h6)))
set_option maxRecDepth 100000 in
set_option maxHeartbeats 4000000 in
theorem bl_L_law_931 {len : Nat} {xs : Nat → Int32} {X : aw_X} {Q : aw_R} (C : aw_C X cL_law RL 4 10) (Z : aw_Z X cL_law (some .boolean) Q) (p1 : Nat) (p2 : Nat) (x3 : Int32) (h : aw_H) (HX : aw_S X 9999 len xs) (hh : sm_L_law_931 (fun (p1 : Nat) (p2 : Nat) (x3 : Int32) (h : aw_H) => Sat X 18 [.ref 9999, .ref p1, .ref p2, .int x3] [] h) len xs Q p1 p2 x3 h) : Sat X 931 [.ref 9999, .ref p1, .ref p2, .int x3] [] h := by
  unfold sm_L_law_931 at hh
  refine ow_aload_n C dL_law_931 rfl rfl ?_
  refine ow_aload_n C dL_law_932 rfl rfl ?_
  refine ow_iload_n C dL_law_933 rfl rfl ?_
  refine ow_iconst (v := 1) C dL_law_934 rfl ?_
  refine ow_iadd C dL_law_935 ?_
  refine ow_sld C HX dL_law_936 hh (fun v1 hh => ?_)
  refine ow_callV C (cv_X6_telling _) (Nat.le_of_ble_eq_true rfl) kw_868 dL_law_937 (as := [.int v1]) (st := []) rfl rfl (Nat.le_of_ble_eq_true rfl) hh (fun r3 h2 hq => ?_)
  obtain ⟨v4, rfl, hh⟩ := sr_I_e hq
  show Sat X 940 [.ref 9999, .ref p1, .ref p2, .int x3] [.int v4] h2
  refine ow_aload_n C dL_law_940 rfl rfl ?_
  refine ow_aload_n C dL_law_941 rfl rfl ?_
  refine ow_iload_n C dL_law_942 rfl rfl ?_
  refine ow_iconst (v := 1) C dL_law_943 rfl ?_
  refine ow_iadd C dL_law_944 ?_
  refine ow_sld C HX dL_law_945 hh (fun v5 hh => ?_)
  refine ow_callV C (cv_X7_telling _) (Nat.le_of_ble_eq_true rfl) kw_869 dL_law_946 (as := [.int v5]) (st := [.int v4]) rfl rfl (Nat.le_of_ble_eq_true rfl) hh (fun r7 h6 hq => ?_)
  obtain ⟨v8, rfl, hh⟩ := sr_I_e hq
  show Sat X 949 [.ref 9999, .ref p1, .ref p2, .int x3] [.int v8, .int v4] h6
  refine ow_icmp_eq (tgt := 1373) C dL_law_949 (by decide) hh (fun hh => ?_) (fun hh => ?_)
  · skip
    exact Sat.mask (bl_L_law_1373 C Z p1 p2 x3 h6 HX hh) (mk_y (mk_y (mk_y (mk_y mk_0))))
  · skip
    refine ow_iconst (v := 0) C dL_law_952 rfl ?_
    exact ow_iret Z dL_law_953 (Or.inl rfl) hh
def sm_L_law_908 (K18 : Nat → Nat → Int32 → aw_H → Prop) (len : Nat) (xs : Nat → Int32) (Q : aw_R) (p1 : Nat) (p2 : Nat) (x3 : Int32) (h : aw_H) : Prop :=
  sx_I len xs (x3 + 1) fun v1 => sv_O h p1 5 (tr_X6_shows [.ref p1, .int v1] h fun r3 h2 => sr_I r3 fun v4 => sx_I len xs (x3 + 1) fun v5 => sv_O h2 p2 6 (tr_X7_shows [.ref p2, .int v5] h2 fun r7 h6 => sr_I r7 fun v8 => if v4 = v8 then (sm_L_law_1373 K18 len xs Q p1 p2 x3 h6) else (Q (some (.int 0)) h6)))
set_option maxRecDepth 100000 in
set_option maxHeartbeats 4000000 in
theorem bl_L_law_908 {len : Nat} {xs : Nat → Int32} {X : aw_X} {Q : aw_R} (C : aw_C X cL_law RL 4 10) (Z : aw_Z X cL_law (some .boolean) Q) (p1 : Nat) (p2 : Nat) (x3 : Int32) (h : aw_H) (HX : aw_S X 9999 len xs) (hh : sm_L_law_908 (fun (p1 : Nat) (p2 : Nat) (x3 : Int32) (h : aw_H) => Sat X 18 [.ref 9999, .ref p1, .ref p2, .int x3] [] h) len xs Q p1 p2 x3 h) : Sat X 908 [.ref 9999, .ref p1, .ref p2, .int x3] [] h := by
  unfold sm_L_law_908 at hh
  refine ow_aload_n C dL_law_908 rfl rfl ?_
  refine ow_aload_n C dL_law_909 rfl rfl ?_
  refine ow_iload_n C dL_law_910 rfl rfl ?_
  refine ow_iconst (v := 1) C dL_law_911 rfl ?_
  refine ow_iadd C dL_law_912 ?_
  refine ow_sld C HX dL_law_913 hh (fun v1 hh => ?_)
  refine ow_callV C (cv_X6_shows _) (Nat.le_of_ble_eq_true rfl) kw_870 dL_law_914 (as := [.int v1]) (st := []) rfl rfl (Nat.le_of_ble_eq_true rfl) hh (fun r3 h2 hq => ?_)
  obtain ⟨v4, rfl, hh⟩ := sr_I_e hq
  show Sat X 917 [.ref 9999, .ref p1, .ref p2, .int x3] [.int v4] h2
  refine ow_aload_n C dL_law_917 rfl rfl ?_
  refine ow_aload_n C dL_law_918 rfl rfl ?_
  refine ow_iload_n C dL_law_919 rfl rfl ?_
  refine ow_iconst (v := 1) C dL_law_920 rfl ?_
  refine ow_iadd C dL_law_921 ?_
  refine ow_sld C HX dL_law_922 hh (fun v5 hh => ?_)
  refine ow_callV C (cv_X7_shows _) (Nat.le_of_ble_eq_true rfl) kw_871 dL_law_923 (as := [.int v5]) (st := [.int v4]) rfl rfl (Nat.le_of_ble_eq_true rfl) hh (fun r7 h6 hq => ?_)
  obtain ⟨v8, rfl, hh⟩ := sr_I_e hq
  show Sat X 926 [.ref 9999, .ref p1, .ref p2, .int x3] [.int v8, .int v4] h6
  refine ow_icmp_eq (tgt := 1373) C dL_law_926 (by decide) hh (fun hh => ?_) (fun hh => ?_)
  · skip
    exact Sat.mask (bl_L_law_1373 C Z p1 p2 x3 h6 HX hh) (mk_y (mk_y (mk_y (mk_y mk_0))))
  · skip
    refine ow_iconst (v := 0) C dL_law_929 rfl ?_
    exact ow_iret Z dL_law_930 (Or.inl rfl) hh
def sm_L_law_885 (K18 : Nat → Nat → Int32 → aw_H → Prop) (len : Nat) (xs : Nat → Int32) (Q : aw_R) (p1 : Nat) (p2 : Nat) (x3 : Int32) (h : aw_H) : Prop :=
  sx_I len xs (x3 + 1) fun v1 => sv_O h p1 5 (tr_X6_reach [.ref p1, .int v1] h fun r3 h2 => sr_I r3 fun v4 => sx_I len xs (x3 + 1) fun v5 => sv_O h2 p2 6 (tr_X7_reach [.ref p2, .int v5] h2 fun r7 h6 => sr_I r7 fun v8 => if v4 = v8 then (sm_L_law_1373 K18 len xs Q p1 p2 x3 h6) else (Q (some (.int 0)) h6)))
set_option maxRecDepth 100000 in
set_option maxHeartbeats 4000000 in
theorem bl_L_law_885 {len : Nat} {xs : Nat → Int32} {X : aw_X} {Q : aw_R} (C : aw_C X cL_law RL 4 10) (Z : aw_Z X cL_law (some .boolean) Q) (p1 : Nat) (p2 : Nat) (x3 : Int32) (h : aw_H) (HX : aw_S X 9999 len xs) (hh : sm_L_law_885 (fun (p1 : Nat) (p2 : Nat) (x3 : Int32) (h : aw_H) => Sat X 18 [.ref 9999, .ref p1, .ref p2, .int x3] [] h) len xs Q p1 p2 x3 h) : Sat X 885 [.ref 9999, .ref p1, .ref p2, .int x3] [] h := by
  unfold sm_L_law_885 at hh
  refine ow_aload_n C dL_law_885 rfl rfl ?_
  refine ow_aload_n C dL_law_886 rfl rfl ?_
  refine ow_iload_n C dL_law_887 rfl rfl ?_
  refine ow_iconst (v := 1) C dL_law_888 rfl ?_
  refine ow_iadd C dL_law_889 ?_
  refine ow_sld C HX dL_law_890 hh (fun v1 hh => ?_)
  refine ow_callV C (cv_X6_reach _) (Nat.le_of_ble_eq_true rfl) kw_872 dL_law_891 (as := [.int v1]) (st := []) rfl rfl (Nat.le_of_ble_eq_true rfl) hh (fun r3 h2 hq => ?_)
  obtain ⟨v4, rfl, hh⟩ := sr_I_e hq
  show Sat X 894 [.ref 9999, .ref p1, .ref p2, .int x3] [.int v4] h2
  refine ow_aload_n C dL_law_894 rfl rfl ?_
  refine ow_aload_n C dL_law_895 rfl rfl ?_
  refine ow_iload_n C dL_law_896 rfl rfl ?_
  refine ow_iconst (v := 1) C dL_law_897 rfl ?_
  refine ow_iadd C dL_law_898 ?_
  refine ow_sld C HX dL_law_899 hh (fun v5 hh => ?_)
  refine ow_callV C (cv_X7_reach _) (Nat.le_of_ble_eq_true rfl) kw_873 dL_law_900 (as := [.int v5]) (st := [.int v4]) rfl rfl (Nat.le_of_ble_eq_true rfl) hh (fun r7 h6 hq => ?_)
  obtain ⟨v8, rfl, hh⟩ := sr_I_e hq
  show Sat X 903 [.ref 9999, .ref p1, .ref p2, .int x3] [.int v8, .int v4] h6
  refine ow_icmp_eq (tgt := 1373) C dL_law_903 (by decide) hh (fun hh => ?_) (fun hh => ?_)
  · skip
    exact Sat.mask (bl_L_law_1373 C Z p1 p2 x3 h6 HX hh) (mk_y (mk_y (mk_y (mk_y mk_0))))
  · skip
    refine ow_iconst (v := 0) C dL_law_906 rfl ?_
    exact ow_iret Z dL_law_907 (Or.inl rfl) hh
def sm_L_law_842 (K18 : Nat → Nat → Int32 → aw_H → Prop) (len : Nat) (xs : Nat → Int32) (Q : aw_R) (p1 : Nat) (p2 : Nat) (x3 : Int32) (h : aw_H) : Prop :=
  sx_I len xs (x3 + 1) fun v1 => sx_I len xs (x3 + 2) fun v2 => sx_I len xs (x3 + 3) fun v3 => sv_O h p1 5 (tr_X6_way [.ref p1, .int v1, .int v2, .int v3] h fun r5 h4 => sr_I r5 fun v6 => sx_I len xs (x3 + 1) fun v7 => sx_I len xs (x3 + 2) fun v8 => sx_I len xs (x3 + 3) fun v9 => sv_O h4 p2 6 (tr_X7_way [.ref p2, .int v7, .int v8, .int v9] h4 fun r11 h10 => sr_I r11 fun v12 => if v6 = v12 then (sm_L_law_1373 K18 len xs Q p1 p2 x3 h10) else (Q (some (.int 0)) h10)))
set_option maxRecDepth 100000 in
set_option maxHeartbeats 4000000 in
theorem bl_L_law_842 {len : Nat} {xs : Nat → Int32} {X : aw_X} {Q : aw_R} (C : aw_C X cL_law RL 4 10) (Z : aw_Z X cL_law (some .boolean) Q) (p1 : Nat) (p2 : Nat) (x3 : Int32) (h : aw_H) (HX : aw_S X 9999 len xs) (hh : sm_L_law_842 (fun (p1 : Nat) (p2 : Nat) (x3 : Int32) (h : aw_H) => Sat X 18 [.ref 9999, .ref p1, .ref p2, .int x3] [] h) len xs Q p1 p2 x3 h) : Sat X 842 [.ref 9999, .ref p1, .ref p2, .int x3] [] h := by
  unfold sm_L_law_842 at hh
  refine ow_aload_n C dL_law_842 rfl rfl ?_
  refine ow_aload_n C dL_law_843 rfl rfl ?_
  refine ow_iload_n C dL_law_844 rfl rfl ?_
  refine ow_iconst (v := 1) C dL_law_845 rfl ?_
  refine ow_iadd C dL_law_846 ?_
  refine ow_sld C HX dL_law_847 hh (fun v1 hh => ?_)
  refine ow_aload_n C dL_law_848 rfl rfl ?_
  refine ow_iload_n C dL_law_849 rfl rfl ?_
  refine ow_iconst (v := 2) C dL_law_850 rfl ?_
  refine ow_iadd C dL_law_851 ?_
  refine ow_sld C HX dL_law_852 hh (fun v2 hh => ?_)
  refine ow_aload_n C dL_law_853 rfl rfl ?_
  refine ow_iload_n C dL_law_854 rfl rfl ?_
  refine ow_iconst (v := 3) C dL_law_855 rfl ?_
  refine ow_iadd C dL_law_856 ?_
  refine ow_sld C HX dL_law_857 hh (fun v3 hh => ?_)
  refine ow_callV C (cv_X6_way _) (Nat.le_of_ble_eq_true rfl) kw_874 dL_law_858 (as := [.int v1, .int v2, .int v3]) (st := []) rfl rfl (Nat.le_of_ble_eq_true rfl) hh (fun r5 h4 hq => ?_)
  obtain ⟨v6, rfl, hh⟩ := sr_I_e hq
  show Sat X 861 [.ref 9999, .ref p1, .ref p2, .int x3] [.int v6] h4
  refine ow_aload_n C dL_law_861 rfl rfl ?_
  refine ow_aload_n C dL_law_862 rfl rfl ?_
  refine ow_iload_n C dL_law_863 rfl rfl ?_
  refine ow_iconst (v := 1) C dL_law_864 rfl ?_
  refine ow_iadd C dL_law_865 ?_
  refine ow_sld C HX dL_law_866 hh (fun v7 hh => ?_)
  refine ow_aload_n C dL_law_867 rfl rfl ?_
  refine ow_iload_n C dL_law_868 rfl rfl ?_
  refine ow_iconst (v := 2) C dL_law_869 rfl ?_
  refine ow_iadd C dL_law_870 ?_
  refine ow_sld C HX dL_law_871 hh (fun v8 hh => ?_)
  refine ow_aload_n C dL_law_872 rfl rfl ?_
  refine ow_iload_n C dL_law_873 rfl rfl ?_
  refine ow_iconst (v := 3) C dL_law_874 rfl ?_
  refine ow_iadd C dL_law_875 ?_
  refine ow_sld C HX dL_law_876 hh (fun v9 hh => ?_)
  refine ow_callV C (cv_X7_way _) (Nat.le_of_ble_eq_true rfl) kw_875 dL_law_877 (as := [.int v7, .int v8, .int v9]) (st := [.int v6]) rfl rfl (Nat.le_of_ble_eq_true rfl) hh (fun r11 h10 hq => ?_)
  obtain ⟨v12, rfl, hh⟩ := sr_I_e hq
  show Sat X 880 [.ref 9999, .ref p1, .ref p2, .int x3] [.int v12, .int v6] h10
  refine ow_icmp_eq (tgt := 1373) C dL_law_880 (by decide) hh (fun hh => ?_) (fun hh => ?_)
  · skip
    exact Sat.mask (bl_L_law_1373 C Z p1 p2 x3 h10 HX hh) (mk_y (mk_y (mk_y (mk_y mk_0))))
  · skip
    refine ow_iconst (v := 0) C dL_law_883 rfl ?_
    exact ow_iret Z dL_law_884 (Or.inl rfl) hh
def sm_L_law_809 (K18 : Nat → Nat → Int32 → aw_H → Prop) (len : Nat) (xs : Nat → Int32) (Q : aw_R) (p1 : Nat) (p2 : Nat) (x3 : Int32) (h : aw_H) : Prop :=
  sx_I len xs (x3 + 1) fun v1 => sx_I len xs (x3 + 2) fun v2 => sv_O h p1 5 (tr_X6_hangs [.ref p1, .int v1, .int v2] h fun r4 h3 => sr_I r4 fun v5 => sx_I len xs (x3 + 1) fun v6 => sx_I len xs (x3 + 2) fun v7 => sv_O h3 p2 6 (tr_X7_hangs [.ref p2, .int v6, .int v7] h3 fun r9 h8 => sr_I r9 fun v10 => if v5 = v10 then (sm_L_law_1373 K18 len xs Q p1 p2 x3 h8) else (Q (some (.int 0)) h8)))
set_option maxRecDepth 100000 in
set_option maxHeartbeats 4000000 in
theorem bl_L_law_809 {len : Nat} {xs : Nat → Int32} {X : aw_X} {Q : aw_R} (C : aw_C X cL_law RL 4 10) (Z : aw_Z X cL_law (some .boolean) Q) (p1 : Nat) (p2 : Nat) (x3 : Int32) (h : aw_H) (HX : aw_S X 9999 len xs) (hh : sm_L_law_809 (fun (p1 : Nat) (p2 : Nat) (x3 : Int32) (h : aw_H) => Sat X 18 [.ref 9999, .ref p1, .ref p2, .int x3] [] h) len xs Q p1 p2 x3 h) : Sat X 809 [.ref 9999, .ref p1, .ref p2, .int x3] [] h := by
  unfold sm_L_law_809 at hh
  refine ow_aload_n C dL_law_809 rfl rfl ?_
  refine ow_aload_n C dL_law_810 rfl rfl ?_
  refine ow_iload_n C dL_law_811 rfl rfl ?_
  refine ow_iconst (v := 1) C dL_law_812 rfl ?_
  refine ow_iadd C dL_law_813 ?_
  refine ow_sld C HX dL_law_814 hh (fun v1 hh => ?_)
  refine ow_aload_n C dL_law_815 rfl rfl ?_
  refine ow_iload_n C dL_law_816 rfl rfl ?_
  refine ow_iconst (v := 2) C dL_law_817 rfl ?_
  refine ow_iadd C dL_law_818 ?_
  refine ow_sld C HX dL_law_819 hh (fun v2 hh => ?_)
  refine ow_callV C (cv_X6_hangs _) (Nat.le_of_ble_eq_true rfl) kw_876 dL_law_820 (as := [.int v1, .int v2]) (st := []) rfl rfl (Nat.le_of_ble_eq_true rfl) hh (fun r4 h3 hq => ?_)
  obtain ⟨v5, rfl, hh⟩ := sr_I_e hq
  show Sat X 823 [.ref 9999, .ref p1, .ref p2, .int x3] [.int v5] h3
  refine ow_aload_n C dL_law_823 rfl rfl ?_
  refine ow_aload_n C dL_law_824 rfl rfl ?_
  refine ow_iload_n C dL_law_825 rfl rfl ?_
  refine ow_iconst (v := 1) C dL_law_826 rfl ?_
  refine ow_iadd C dL_law_827 ?_
  refine ow_sld C HX dL_law_828 hh (fun v6 hh => ?_)
  refine ow_aload_n C dL_law_829 rfl rfl ?_
  refine ow_iload_n C dL_law_830 rfl rfl ?_
  refine ow_iconst (v := 2) C dL_law_831 rfl ?_
  refine ow_iadd C dL_law_832 ?_
  refine ow_sld C HX dL_law_833 hh (fun v7 hh => ?_)
  refine ow_callV C (cv_X7_hangs _) (Nat.le_of_ble_eq_true rfl) kw_877 dL_law_834 (as := [.int v6, .int v7]) (st := [.int v5]) rfl rfl (Nat.le_of_ble_eq_true rfl) hh (fun r9 h8 hq => ?_)
  obtain ⟨v10, rfl, hh⟩ := sr_I_e hq
  show Sat X 837 [.ref 9999, .ref p1, .ref p2, .int x3] [.int v10, .int v5] h8
  refine ow_icmp_eq (tgt := 1373) C dL_law_837 (by decide) hh (fun hh => ?_) (fun hh => ?_)
  · skip
    exact Sat.mask (bl_L_law_1373 C Z p1 p2 x3 h8 HX hh) (mk_y (mk_y (mk_y (mk_y mk_0))))
  · skip
    refine ow_iconst (v := 0) C dL_law_840 rfl ?_
    exact ow_iret Z dL_law_841 (Or.inl rfl) hh
def sm_L_law_796 (K18 : Nat → Nat → Int32 → aw_H → Prop) (len : Nat) (xs : Nat → Int32) (Q : aw_R) (p1 : Nat) (p2 : Nat) (x3 : Int32) (h : aw_H) : Prop :=
  sv_O h p1 5 (tr_X6_pair [.ref p1] h fun r2 h1 => sr_I r2 fun v3 => sv_O h1 p2 6 (tr_X7_pair [.ref p2] h1 fun r5 h4 => sr_I r5 fun v6 => if v3 = v6 then (sm_L_law_1373 K18 len xs Q p1 p2 x3 h4) else (Q (some (.int 0)) h4)))
set_option maxRecDepth 100000 in
set_option maxHeartbeats 4000000 in
theorem bl_L_law_796 {len : Nat} {xs : Nat → Int32} {X : aw_X} {Q : aw_R} (C : aw_C X cL_law RL 4 10) (Z : aw_Z X cL_law (some .boolean) Q) (p1 : Nat) (p2 : Nat) (x3 : Int32) (h : aw_H) (HX : aw_S X 9999 len xs) (hh : sm_L_law_796 (fun (p1 : Nat) (p2 : Nat) (x3 : Int32) (h : aw_H) => Sat X 18 [.ref 9999, .ref p1, .ref p2, .int x3] [] h) len xs Q p1 p2 x3 h) : Sat X 796 [.ref 9999, .ref p1, .ref p2, .int x3] [] h := by
  unfold sm_L_law_796 at hh
  refine ow_aload_n C dL_law_796 rfl rfl ?_
  refine ow_callV C (cv_X6_pair _) (Nat.le_of_ble_eq_true rfl) kw_878 dL_law_797 (as := []) (st := []) rfl rfl (Nat.le_of_ble_eq_true rfl) hh (fun r2 h1 hq => ?_)
  obtain ⟨v3, rfl, hh⟩ := sr_I_e hq
  show Sat X 800 [.ref 9999, .ref p1, .ref p2, .int x3] [.int v3] h1
  refine ow_aload_n C dL_law_800 rfl rfl ?_
  refine ow_callV C (cv_X7_pair _) (Nat.le_of_ble_eq_true rfl) kw_879 dL_law_801 (as := []) (st := [.int v3]) rfl rfl (Nat.le_of_ble_eq_true rfl) hh (fun r5 h4 hq => ?_)
  obtain ⟨v6, rfl, hh⟩ := sr_I_e hq
  show Sat X 804 [.ref 9999, .ref p1, .ref p2, .int x3] [.int v6, .int v3] h4
  refine ow_icmp_eq (tgt := 1373) C dL_law_804 (by decide) hh (fun hh => ?_) (fun hh => ?_)
  · skip
    exact Sat.mask (bl_L_law_1373 C Z p1 p2 x3 h4 HX hh) (mk_y (mk_y (mk_y (mk_y mk_0))))
  · skip
    refine ow_iconst (v := 0) C dL_law_807 rfl ?_
    exact ow_iret Z dL_law_808 (Or.inl rfl) hh
def sm_L_law_763 (K18 : Nat → Nat → Int32 → aw_H → Prop) (len : Nat) (xs : Nat → Int32) (Q : aw_R) (p1 : Nat) (p2 : Nat) (x3 : Int32) (h : aw_H) : Prop :=
  sx_I len xs (x3 + 1) fun v1 => sx_I len xs (x3 + 2) fun v2 => sv_O h p1 5 (tr_X6_alike [.ref p1, .int v1, .int v2] h fun r4 h3 => sr_I r4 fun v5 => sx_I len xs (x3 + 1) fun v6 => sx_I len xs (x3 + 2) fun v7 => sv_O h3 p2 6 (tr_X7_alike [.ref p2, .int v6, .int v7] h3 fun r9 h8 => sr_I r9 fun v10 => if v5 = v10 then (sm_L_law_1373 K18 len xs Q p1 p2 x3 h8) else (Q (some (.int 0)) h8)))
set_option maxRecDepth 100000 in
set_option maxHeartbeats 4000000 in
theorem bl_L_law_763 {len : Nat} {xs : Nat → Int32} {X : aw_X} {Q : aw_R} (C : aw_C X cL_law RL 4 10) (Z : aw_Z X cL_law (some .boolean) Q) (p1 : Nat) (p2 : Nat) (x3 : Int32) (h : aw_H) (HX : aw_S X 9999 len xs) (hh : sm_L_law_763 (fun (p1 : Nat) (p2 : Nat) (x3 : Int32) (h : aw_H) => Sat X 18 [.ref 9999, .ref p1, .ref p2, .int x3] [] h) len xs Q p1 p2 x3 h) : Sat X 763 [.ref 9999, .ref p1, .ref p2, .int x3] [] h := by
  unfold sm_L_law_763 at hh
  refine ow_aload_n C dL_law_763 rfl rfl ?_
  refine ow_aload_n C dL_law_764 rfl rfl ?_
  refine ow_iload_n C dL_law_765 rfl rfl ?_
  refine ow_iconst (v := 1) C dL_law_766 rfl ?_
  refine ow_iadd C dL_law_767 ?_
  refine ow_sld C HX dL_law_768 hh (fun v1 hh => ?_)
  refine ow_aload_n C dL_law_769 rfl rfl ?_
  refine ow_iload_n C dL_law_770 rfl rfl ?_
  refine ow_iconst (v := 2) C dL_law_771 rfl ?_
  refine ow_iadd C dL_law_772 ?_
  refine ow_sld C HX dL_law_773 hh (fun v2 hh => ?_)
  refine ow_callV C (cv_X6_alike _) (Nat.le_of_ble_eq_true rfl) kw_880 dL_law_774 (as := [.int v1, .int v2]) (st := []) rfl rfl (Nat.le_of_ble_eq_true rfl) hh (fun r4 h3 hq => ?_)
  obtain ⟨v5, rfl, hh⟩ := sr_I_e hq
  show Sat X 777 [.ref 9999, .ref p1, .ref p2, .int x3] [.int v5] h3
  refine ow_aload_n C dL_law_777 rfl rfl ?_
  refine ow_aload_n C dL_law_778 rfl rfl ?_
  refine ow_iload_n C dL_law_779 rfl rfl ?_
  refine ow_iconst (v := 1) C dL_law_780 rfl ?_
  refine ow_iadd C dL_law_781 ?_
  refine ow_sld C HX dL_law_782 hh (fun v6 hh => ?_)
  refine ow_aload_n C dL_law_783 rfl rfl ?_
  refine ow_iload_n C dL_law_784 rfl rfl ?_
  refine ow_iconst (v := 2) C dL_law_785 rfl ?_
  refine ow_iadd C dL_law_786 ?_
  refine ow_sld C HX dL_law_787 hh (fun v7 hh => ?_)
  refine ow_callV C (cv_X7_alike _) (Nat.le_of_ble_eq_true rfl) kw_881 dL_law_788 (as := [.int v6, .int v7]) (st := [.int v5]) rfl rfl (Nat.le_of_ble_eq_true rfl) hh (fun r9 h8 hq => ?_)
  obtain ⟨v10, rfl, hh⟩ := sr_I_e hq
  show Sat X 791 [.ref 9999, .ref p1, .ref p2, .int x3] [.int v10, .int v5] h8
  refine ow_icmp_eq (tgt := 1373) C dL_law_791 (by decide) hh (fun hh => ?_) (fun hh => ?_)
  · skip
    exact Sat.mask (bl_L_law_1373 C Z p1 p2 x3 h8 HX hh) (mk_y (mk_y (mk_y (mk_y mk_0))))
  · skip
    refine ow_iconst (v := 0) C dL_law_794 rfl ?_
    exact ow_iret Z dL_law_795 (Or.inl rfl) hh
def sm_L_law_750 (K18 : Nat → Nat → Int32 → aw_H → Prop) (len : Nat) (xs : Nat → Int32) (Q : aw_R) (p1 : Nat) (p2 : Nat) (x3 : Int32) (h : aw_H) : Prop :=
  sv_O h p1 5 (tr_X6_odd [.ref p1] h fun r2 h1 => sr_I r2 fun v3 => sv_O h1 p2 6 (tr_X7_odd [.ref p2] h1 fun r5 h4 => sr_I r5 fun v6 => if v3 = v6 then (sm_L_law_1373 K18 len xs Q p1 p2 x3 h4) else (Q (some (.int 0)) h4)))
set_option maxRecDepth 100000 in
set_option maxHeartbeats 4000000 in
theorem bl_L_law_750 {len : Nat} {xs : Nat → Int32} {X : aw_X} {Q : aw_R} (C : aw_C X cL_law RL 4 10) (Z : aw_Z X cL_law (some .boolean) Q) (p1 : Nat) (p2 : Nat) (x3 : Int32) (h : aw_H) (HX : aw_S X 9999 len xs) (hh : sm_L_law_750 (fun (p1 : Nat) (p2 : Nat) (x3 : Int32) (h : aw_H) => Sat X 18 [.ref 9999, .ref p1, .ref p2, .int x3] [] h) len xs Q p1 p2 x3 h) : Sat X 750 [.ref 9999, .ref p1, .ref p2, .int x3] [] h := by
  unfold sm_L_law_750 at hh
  refine ow_aload_n C dL_law_750 rfl rfl ?_
  refine ow_callV C (cv_X6_odd _) (Nat.le_of_ble_eq_true rfl) kw_882 dL_law_751 (as := []) (st := []) rfl rfl (Nat.le_of_ble_eq_true rfl) hh (fun r2 h1 hq => ?_)
  obtain ⟨v3, rfl, hh⟩ := sr_I_e hq
  show Sat X 754 [.ref 9999, .ref p1, .ref p2, .int x3] [.int v3] h1
  refine ow_aload_n C dL_law_754 rfl rfl ?_
  refine ow_callV C (cv_X7_odd _) (Nat.le_of_ble_eq_true rfl) kw_883 dL_law_755 (as := []) (st := [.int v3]) rfl rfl (Nat.le_of_ble_eq_true rfl) hh (fun r5 h4 hq => ?_)
  obtain ⟨v6, rfl, hh⟩ := sr_I_e hq
  show Sat X 758 [.ref 9999, .ref p1, .ref p2, .int x3] [.int v6, .int v3] h4
  refine ow_icmp_eq (tgt := 1373) C dL_law_758 (by decide) hh (fun hh => ?_) (fun hh => ?_)
  · skip
    exact Sat.mask (bl_L_law_1373 C Z p1 p2 x3 h4 HX hh) (mk_y (mk_y (mk_y (mk_y mk_0))))
  · skip
    refine ow_iconst (v := 0) C dL_law_761 rfl ?_
    exact ow_iret Z dL_law_762 (Or.inl rfl) hh
def sm_L_law_737 (K18 : Nat → Nat → Int32 → aw_H → Prop) (len : Nat) (xs : Nat → Int32) (Q : aw_R) (p1 : Nat) (p2 : Nat) (x3 : Int32) (h : aw_H) : Prop :=
  sv_O h p1 5 (tr_X6_order [.ref p1] h fun r2 h1 => sr_I r2 fun v3 => sv_O h1 p2 6 (tr_X7_order [.ref p2] h1 fun r5 h4 => sr_I r5 fun v6 => if v3 = v6 then (sm_L_law_1373 K18 len xs Q p1 p2 x3 h4) else (Q (some (.int 0)) h4)))
set_option maxRecDepth 100000 in
set_option maxHeartbeats 4000000 in
theorem bl_L_law_737 {len : Nat} {xs : Nat → Int32} {X : aw_X} {Q : aw_R} (C : aw_C X cL_law RL 4 10) (Z : aw_Z X cL_law (some .boolean) Q) (p1 : Nat) (p2 : Nat) (x3 : Int32) (h : aw_H) (HX : aw_S X 9999 len xs) (hh : sm_L_law_737 (fun (p1 : Nat) (p2 : Nat) (x3 : Int32) (h : aw_H) => Sat X 18 [.ref 9999, .ref p1, .ref p2, .int x3] [] h) len xs Q p1 p2 x3 h) : Sat X 737 [.ref 9999, .ref p1, .ref p2, .int x3] [] h := by
  unfold sm_L_law_737 at hh
  refine ow_aload_n C dL_law_737 rfl rfl ?_
  refine ow_callV C (cv_X6_order _) (Nat.le_of_ble_eq_true rfl) kw_884 dL_law_738 (as := []) (st := []) rfl rfl (Nat.le_of_ble_eq_true rfl) hh (fun r2 h1 hq => ?_)
  obtain ⟨v3, rfl, hh⟩ := sr_I_e hq
  show Sat X 741 [.ref 9999, .ref p1, .ref p2, .int x3] [.int v3] h1
  refine ow_aload_n C dL_law_741 rfl rfl ?_
  refine ow_callV C (cv_X7_order _) (Nat.le_of_ble_eq_true rfl) kw_885 dL_law_742 (as := []) (st := [.int v3]) rfl rfl (Nat.le_of_ble_eq_true rfl) hh (fun r5 h4 hq => ?_)
  obtain ⟨v6, rfl, hh⟩ := sr_I_e hq
  show Sat X 745 [.ref 9999, .ref p1, .ref p2, .int x3] [.int v6, .int v3] h4
  refine ow_icmp_eq (tgt := 1373) C dL_law_745 (by decide) hh (fun hh => ?_) (fun hh => ?_)
  · skip
    exact Sat.mask (bl_L_law_1373 C Z p1 p2 x3 h4 HX hh) (mk_y (mk_y (mk_y (mk_y mk_0))))
  · skip
    refine ow_iconst (v := 0) C dL_law_748 rfl ?_
    exact ow_iret Z dL_law_749 (Or.inl rfl) hh
def sm_L_law_714 (K18 : Nat → Nat → Int32 → aw_H → Prop) (len : Nat) (xs : Nat → Int32) (Q : aw_R) (p1 : Nat) (p2 : Nat) (x3 : Int32) (h : aw_H) : Prop :=
  sx_I len xs (x3 + 1) fun v1 => sv_O h p1 5 (tr_X6_rings [.ref p1, .int v1] h fun r3 h2 => sr_I r3 fun v4 => sx_I len xs (x3 + 1) fun v5 => sv_O h2 p2 6 (tr_X7_rings [.ref p2, .int v5] h2 fun r7 h6 => sr_I r7 fun v8 => if v4 = v8 then (sm_L_law_1373 K18 len xs Q p1 p2 x3 h6) else (Q (some (.int 0)) h6)))
set_option maxRecDepth 100000 in
set_option maxHeartbeats 4000000 in
theorem bl_L_law_714 {len : Nat} {xs : Nat → Int32} {X : aw_X} {Q : aw_R} (C : aw_C X cL_law RL 4 10) (Z : aw_Z X cL_law (some .boolean) Q) (p1 : Nat) (p2 : Nat) (x3 : Int32) (h : aw_H) (HX : aw_S X 9999 len xs) (hh : sm_L_law_714 (fun (p1 : Nat) (p2 : Nat) (x3 : Int32) (h : aw_H) => Sat X 18 [.ref 9999, .ref p1, .ref p2, .int x3] [] h) len xs Q p1 p2 x3 h) : Sat X 714 [.ref 9999, .ref p1, .ref p2, .int x3] [] h := by
  unfold sm_L_law_714 at hh
  refine ow_aload_n C dL_law_714 rfl rfl ?_
  refine ow_aload_n C dL_law_715 rfl rfl ?_
  refine ow_iload_n C dL_law_716 rfl rfl ?_
  refine ow_iconst (v := 1) C dL_law_717 rfl ?_
  refine ow_iadd C dL_law_718 ?_
  refine ow_sld C HX dL_law_719 hh (fun v1 hh => ?_)
  refine ow_callV C (cv_X6_rings _) (Nat.le_of_ble_eq_true rfl) kw_886 dL_law_720 (as := [.int v1]) (st := []) rfl rfl (Nat.le_of_ble_eq_true rfl) hh (fun r3 h2 hq => ?_)
  obtain ⟨v4, rfl, hh⟩ := sr_I_e hq
  show Sat X 723 [.ref 9999, .ref p1, .ref p2, .int x3] [.int v4] h2
  refine ow_aload_n C dL_law_723 rfl rfl ?_
  refine ow_aload_n C dL_law_724 rfl rfl ?_
  refine ow_iload_n C dL_law_725 rfl rfl ?_
  refine ow_iconst (v := 1) C dL_law_726 rfl ?_
  refine ow_iadd C dL_law_727 ?_
  refine ow_sld C HX dL_law_728 hh (fun v5 hh => ?_)
  refine ow_callV C (cv_X7_rings _) (Nat.le_of_ble_eq_true rfl) kw_887 dL_law_729 (as := [.int v5]) (st := [.int v4]) rfl rfl (Nat.le_of_ble_eq_true rfl) hh (fun r7 h6 hq => ?_)
  obtain ⟨v8, rfl, hh⟩ := sr_I_e hq
  show Sat X 732 [.ref 9999, .ref p1, .ref p2, .int x3] [.int v8, .int v4] h6
  refine ow_icmp_eq (tgt := 1373) C dL_law_732 (by decide) hh (fun hh => ?_) (fun hh => ?_)
  · skip
    exact Sat.mask (bl_L_law_1373 C Z p1 p2 x3 h6 HX hh) (mk_y (mk_y (mk_y (mk_y mk_0))))
  · skip
    refine ow_iconst (v := 0) C dL_law_735 rfl ?_
    exact ow_iret Z dL_law_736 (Or.inl rfl) hh
def sm_L_law_691 (K18 : Nat → Nat → Int32 → aw_H → Prop) (len : Nat) (xs : Nat → Int32) (Q : aw_R) (p1 : Nat) (p2 : Nat) (x3 : Int32) (h : aw_H) : Prop :=
  sx_I len xs (x3 + 1) fun v1 => sv_O h p1 5 (tr_X6_ring [.ref p1, .int v1] h fun r3 h2 => sr_I r3 fun v4 => sx_I len xs (x3 + 1) fun v5 => sv_O h2 p2 6 (tr_X7_ring [.ref p2, .int v5] h2 fun r7 h6 => sr_I r7 fun v8 => if v4 = v8 then (sm_L_law_1373 K18 len xs Q p1 p2 x3 h6) else (Q (some (.int 0)) h6)))
set_option maxRecDepth 100000 in
set_option maxHeartbeats 4000000 in
theorem bl_L_law_691 {len : Nat} {xs : Nat → Int32} {X : aw_X} {Q : aw_R} (C : aw_C X cL_law RL 4 10) (Z : aw_Z X cL_law (some .boolean) Q) (p1 : Nat) (p2 : Nat) (x3 : Int32) (h : aw_H) (HX : aw_S X 9999 len xs) (hh : sm_L_law_691 (fun (p1 : Nat) (p2 : Nat) (x3 : Int32) (h : aw_H) => Sat X 18 [.ref 9999, .ref p1, .ref p2, .int x3] [] h) len xs Q p1 p2 x3 h) : Sat X 691 [.ref 9999, .ref p1, .ref p2, .int x3] [] h := by
  unfold sm_L_law_691 at hh
  refine ow_aload_n C dL_law_691 rfl rfl ?_
  refine ow_aload_n C dL_law_692 rfl rfl ?_
  refine ow_iload_n C dL_law_693 rfl rfl ?_
  refine ow_iconst (v := 1) C dL_law_694 rfl ?_
  refine ow_iadd C dL_law_695 ?_
  refine ow_sld C HX dL_law_696 hh (fun v1 hh => ?_)
  refine ow_callV C (cv_X6_ring _) (Nat.le_of_ble_eq_true rfl) kw_888 dL_law_697 (as := [.int v1]) (st := []) rfl rfl (Nat.le_of_ble_eq_true rfl) hh (fun r3 h2 hq => ?_)
  obtain ⟨v4, rfl, hh⟩ := sr_I_e hq
  show Sat X 700 [.ref 9999, .ref p1, .ref p2, .int x3] [.int v4] h2
  refine ow_aload_n C dL_law_700 rfl rfl ?_
  refine ow_aload_n C dL_law_701 rfl rfl ?_
  refine ow_iload_n C dL_law_702 rfl rfl ?_
  refine ow_iconst (v := 1) C dL_law_703 rfl ?_
  refine ow_iadd C dL_law_704 ?_
  refine ow_sld C HX dL_law_705 hh (fun v5 hh => ?_)
  refine ow_callV C (cv_X7_ring _) (Nat.le_of_ble_eq_true rfl) kw_889 dL_law_706 (as := [.int v5]) (st := [.int v4]) rfl rfl (Nat.le_of_ble_eq_true rfl) hh (fun r7 h6 hq => ?_)
  obtain ⟨v8, rfl, hh⟩ := sr_I_e hq
  show Sat X 709 [.ref 9999, .ref p1, .ref p2, .int x3] [.int v8, .int v4] h6
  refine ow_icmp_eq (tgt := 1373) C dL_law_709 (by decide) hh (fun hh => ?_) (fun hh => ?_)
  · skip
    exact Sat.mask (bl_L_law_1373 C Z p1 p2 x3 h6 HX hh) (mk_y (mk_y (mk_y (mk_y mk_0))))
  · skip
    refine ow_iconst (v := 0) C dL_law_712 rfl ?_
    exact ow_iret Z dL_law_713 (Or.inl rfl) hh
def sm_L_law_658 (K18 : Nat → Nat → Int32 → aw_H → Prop) (len : Nat) (xs : Nat → Int32) (Q : aw_R) (p1 : Nat) (p2 : Nat) (x3 : Int32) (h : aw_H) : Prop :=
  sx_I len xs (x3 + 1) fun v1 => sx_I len xs (x3 + 2) fun v2 => sv_O h p1 5 (tr_X6_far [.ref p1, .int v1, .int v2] h fun r4 h3 => sr_I r4 fun v5 => sx_I len xs (x3 + 1) fun v6 => sx_I len xs (x3 + 2) fun v7 => sv_O h3 p2 6 (tr_X7_far [.ref p2, .int v6, .int v7] h3 fun r9 h8 => sr_I r9 fun v10 => if v5 = v10 then (sm_L_law_1373 K18 len xs Q p1 p2 x3 h8) else (Q (some (.int 0)) h8)))
set_option maxRecDepth 100000 in
set_option maxHeartbeats 4000000 in
theorem bl_L_law_658 {len : Nat} {xs : Nat → Int32} {X : aw_X} {Q : aw_R} (C : aw_C X cL_law RL 4 10) (Z : aw_Z X cL_law (some .boolean) Q) (p1 : Nat) (p2 : Nat) (x3 : Int32) (h : aw_H) (HX : aw_S X 9999 len xs) (hh : sm_L_law_658 (fun (p1 : Nat) (p2 : Nat) (x3 : Int32) (h : aw_H) => Sat X 18 [.ref 9999, .ref p1, .ref p2, .int x3] [] h) len xs Q p1 p2 x3 h) : Sat X 658 [.ref 9999, .ref p1, .ref p2, .int x3] [] h := by
  unfold sm_L_law_658 at hh
  refine ow_aload_n C dL_law_658 rfl rfl ?_
  refine ow_aload_n C dL_law_659 rfl rfl ?_
  refine ow_iload_n C dL_law_660 rfl rfl ?_
  refine ow_iconst (v := 1) C dL_law_661 rfl ?_
  refine ow_iadd C dL_law_662 ?_
  refine ow_sld C HX dL_law_663 hh (fun v1 hh => ?_)
  refine ow_aload_n C dL_law_664 rfl rfl ?_
  refine ow_iload_n C dL_law_665 rfl rfl ?_
  refine ow_iconst (v := 2) C dL_law_666 rfl ?_
  refine ow_iadd C dL_law_667 ?_
  refine ow_sld C HX dL_law_668 hh (fun v2 hh => ?_)
  refine ow_callV C (cv_X6_far _) (Nat.le_of_ble_eq_true rfl) kw_890 dL_law_669 (as := [.int v1, .int v2]) (st := []) rfl rfl (Nat.le_of_ble_eq_true rfl) hh (fun r4 h3 hq => ?_)
  obtain ⟨v5, rfl, hh⟩ := sr_I_e hq
  show Sat X 672 [.ref 9999, .ref p1, .ref p2, .int x3] [.int v5] h3
  refine ow_aload_n C dL_law_672 rfl rfl ?_
  refine ow_aload_n C dL_law_673 rfl rfl ?_
  refine ow_iload_n C dL_law_674 rfl rfl ?_
  refine ow_iconst (v := 1) C dL_law_675 rfl ?_
  refine ow_iadd C dL_law_676 ?_
  refine ow_sld C HX dL_law_677 hh (fun v6 hh => ?_)
  refine ow_aload_n C dL_law_678 rfl rfl ?_
  refine ow_iload_n C dL_law_679 rfl rfl ?_
  refine ow_iconst (v := 2) C dL_law_680 rfl ?_
  refine ow_iadd C dL_law_681 ?_
  refine ow_sld C HX dL_law_682 hh (fun v7 hh => ?_)
  refine ow_callV C (cv_X7_far _) (Nat.le_of_ble_eq_true rfl) kw_891 dL_law_683 (as := [.int v6, .int v7]) (st := [.int v5]) rfl rfl (Nat.le_of_ble_eq_true rfl) hh (fun r9 h8 hq => ?_)
  obtain ⟨v10, rfl, hh⟩ := sr_I_e hq
  show Sat X 686 [.ref 9999, .ref p1, .ref p2, .int x3] [.int v10, .int v5] h8
  refine ow_icmp_eq (tgt := 1373) C dL_law_686 (by decide) hh (fun hh => ?_) (fun hh => ?_)
  · skip
    exact Sat.mask (bl_L_law_1373 C Z p1 p2 x3 h8 HX hh) (mk_y (mk_y (mk_y (mk_y mk_0))))
  · skip
    refine ow_iconst (v := 0) C dL_law_689 rfl ?_
    exact ow_iret Z dL_law_690 (Or.inl rfl) hh
def sm_L_law_625 (K18 : Nat → Nat → Int32 → aw_H → Prop) (len : Nat) (xs : Nat → Int32) (Q : aw_R) (p1 : Nat) (p2 : Nat) (x3 : Int32) (h : aw_H) : Prop :=
  sx_I len xs (x3 + 1) fun v1 => sx_I len xs (x3 + 2) fun v2 => sv_O h p1 5 (tr_X6_goes [.ref p1, .int v1, .int v2] h fun r4 h3 => sr_I r4 fun v5 => sx_I len xs (x3 + 1) fun v6 => sx_I len xs (x3 + 2) fun v7 => sv_O h3 p2 6 (tr_X7_goes [.ref p2, .int v6, .int v7] h3 fun r9 h8 => sr_I r9 fun v10 => if v5 = v10 then (sm_L_law_1373 K18 len xs Q p1 p2 x3 h8) else (Q (some (.int 0)) h8)))
set_option maxRecDepth 100000 in
set_option maxHeartbeats 4000000 in
theorem bl_L_law_625 {len : Nat} {xs : Nat → Int32} {X : aw_X} {Q : aw_R} (C : aw_C X cL_law RL 4 10) (Z : aw_Z X cL_law (some .boolean) Q) (p1 : Nat) (p2 : Nat) (x3 : Int32) (h : aw_H) (HX : aw_S X 9999 len xs) (hh : sm_L_law_625 (fun (p1 : Nat) (p2 : Nat) (x3 : Int32) (h : aw_H) => Sat X 18 [.ref 9999, .ref p1, .ref p2, .int x3] [] h) len xs Q p1 p2 x3 h) : Sat X 625 [.ref 9999, .ref p1, .ref p2, .int x3] [] h := by
  unfold sm_L_law_625 at hh
  refine ow_aload_n C dL_law_625 rfl rfl ?_
  refine ow_aload_n C dL_law_626 rfl rfl ?_
  refine ow_iload_n C dL_law_627 rfl rfl ?_
  refine ow_iconst (v := 1) C dL_law_628 rfl ?_
  refine ow_iadd C dL_law_629 ?_
  refine ow_sld C HX dL_law_630 hh (fun v1 hh => ?_)
  refine ow_aload_n C dL_law_631 rfl rfl ?_
  refine ow_iload_n C dL_law_632 rfl rfl ?_
  refine ow_iconst (v := 2) C dL_law_633 rfl ?_
  refine ow_iadd C dL_law_634 ?_
  refine ow_sld C HX dL_law_635 hh (fun v2 hh => ?_)
  refine ow_callV C (cv_X6_goes _) (Nat.le_of_ble_eq_true rfl) kw_892 dL_law_636 (as := [.int v1, .int v2]) (st := []) rfl rfl (Nat.le_of_ble_eq_true rfl) hh (fun r4 h3 hq => ?_)
  obtain ⟨v5, rfl, hh⟩ := sr_I_e hq
  show Sat X 639 [.ref 9999, .ref p1, .ref p2, .int x3] [.int v5] h3
  refine ow_aload_n C dL_law_639 rfl rfl ?_
  refine ow_aload_n C dL_law_640 rfl rfl ?_
  refine ow_iload_n C dL_law_641 rfl rfl ?_
  refine ow_iconst (v := 1) C dL_law_642 rfl ?_
  refine ow_iadd C dL_law_643 ?_
  refine ow_sld C HX dL_law_644 hh (fun v6 hh => ?_)
  refine ow_aload_n C dL_law_645 rfl rfl ?_
  refine ow_iload_n C dL_law_646 rfl rfl ?_
  refine ow_iconst (v := 2) C dL_law_647 rfl ?_
  refine ow_iadd C dL_law_648 ?_
  refine ow_sld C HX dL_law_649 hh (fun v7 hh => ?_)
  refine ow_callV C (cv_X7_goes _) (Nat.le_of_ble_eq_true rfl) kw_893 dL_law_650 (as := [.int v6, .int v7]) (st := [.int v5]) rfl rfl (Nat.le_of_ble_eq_true rfl) hh (fun r9 h8 hq => ?_)
  obtain ⟨v10, rfl, hh⟩ := sr_I_e hq
  show Sat X 653 [.ref 9999, .ref p1, .ref p2, .int x3] [.int v10, .int v5] h8
  refine ow_icmp_eq (tgt := 1373) C dL_law_653 (by decide) hh (fun hh => ?_) (fun hh => ?_)
  · skip
    exact Sat.mask (bl_L_law_1373 C Z p1 p2 x3 h8 HX hh) (mk_y (mk_y (mk_y (mk_y mk_0))))
  · skip
    refine ow_iconst (v := 0) C dL_law_656 rfl ?_
    exact ow_iret Z dL_law_657 (Or.inl rfl) hh
def sm_L_law_602 (K18 : Nat → Nat → Int32 → aw_H → Prop) (len : Nat) (xs : Nat → Int32) (Q : aw_R) (p1 : Nat) (p2 : Nat) (x3 : Int32) (h : aw_H) : Prop :=
  sx_I len xs (x3 + 1) fun v1 => sv_O h p1 5 (tr_X6_seed [.ref p1, .int v1] h fun r3 h2 => sr_I r3 fun v4 => sx_I len xs (x3 + 1) fun v5 => sv_O h2 p2 6 (tr_X7_seed [.ref p2, .int v5] h2 fun r7 h6 => sr_I r7 fun v8 => if v4 = v8 then (sm_L_law_1373 K18 len xs Q p1 p2 x3 h6) else (Q (some (.int 0)) h6)))
set_option maxRecDepth 100000 in
set_option maxHeartbeats 4000000 in
theorem bl_L_law_602 {len : Nat} {xs : Nat → Int32} {X : aw_X} {Q : aw_R} (C : aw_C X cL_law RL 4 10) (Z : aw_Z X cL_law (some .boolean) Q) (p1 : Nat) (p2 : Nat) (x3 : Int32) (h : aw_H) (HX : aw_S X 9999 len xs) (hh : sm_L_law_602 (fun (p1 : Nat) (p2 : Nat) (x3 : Int32) (h : aw_H) => Sat X 18 [.ref 9999, .ref p1, .ref p2, .int x3] [] h) len xs Q p1 p2 x3 h) : Sat X 602 [.ref 9999, .ref p1, .ref p2, .int x3] [] h := by
  unfold sm_L_law_602 at hh
  refine ow_aload_n C dL_law_602 rfl rfl ?_
  refine ow_aload_n C dL_law_603 rfl rfl ?_
  refine ow_iload_n C dL_law_604 rfl rfl ?_
  refine ow_iconst (v := 1) C dL_law_605 rfl ?_
  refine ow_iadd C dL_law_606 ?_
  refine ow_sld C HX dL_law_607 hh (fun v1 hh => ?_)
  refine ow_callV C (cv_X6_seed _) (Nat.le_of_ble_eq_true rfl) kw_894 dL_law_608 (as := [.int v1]) (st := []) rfl rfl (Nat.le_of_ble_eq_true rfl) hh (fun r3 h2 hq => ?_)
  obtain ⟨v4, rfl, hh⟩ := sr_I_e hq
  show Sat X 611 [.ref 9999, .ref p1, .ref p2, .int x3] [.int v4] h2
  refine ow_aload_n C dL_law_611 rfl rfl ?_
  refine ow_aload_n C dL_law_612 rfl rfl ?_
  refine ow_iload_n C dL_law_613 rfl rfl ?_
  refine ow_iconst (v := 1) C dL_law_614 rfl ?_
  refine ow_iadd C dL_law_615 ?_
  refine ow_sld C HX dL_law_616 hh (fun v5 hh => ?_)
  refine ow_callV C (cv_X7_seed _) (Nat.le_of_ble_eq_true rfl) kw_895 dL_law_617 (as := [.int v5]) (st := [.int v4]) rfl rfl (Nat.le_of_ble_eq_true rfl) hh (fun r7 h6 hq => ?_)
  obtain ⟨v8, rfl, hh⟩ := sr_I_e hq
  show Sat X 620 [.ref 9999, .ref p1, .ref p2, .int x3] [.int v8, .int v4] h6
  refine ow_icmp_eq (tgt := 1373) C dL_law_620 (by decide) hh (fun hh => ?_) (fun hh => ?_)
  · skip
    exact Sat.mask (bl_L_law_1373 C Z p1 p2 x3 h6 HX hh) (mk_y (mk_y (mk_y (mk_y mk_0))))
  · skip
    refine ow_iconst (v := 0) C dL_law_623 rfl ?_
    exact ow_iret Z dL_law_624 (Or.inl rfl) hh
def sm_L_law_589 (K18 : Nat → Nat → Int32 → aw_H → Prop) (len : Nat) (xs : Nat → Int32) (Q : aw_R) (p1 : Nat) (p2 : Nat) (x3 : Int32) (h : aw_H) : Prop :=
  sv_O h p1 5 (tr_X6_undo [.ref p1] h fun r2 h1 => sr_I r2 fun v3 => sv_O h1 p2 6 (tr_X7_undo [.ref p2] h1 fun r5 h4 => sr_I r5 fun v6 => if v3 = v6 then (sm_L_law_1373 K18 len xs Q p1 p2 x3 h4) else (Q (some (.int 0)) h4)))
set_option maxRecDepth 100000 in
set_option maxHeartbeats 4000000 in
theorem bl_L_law_589 {len : Nat} {xs : Nat → Int32} {X : aw_X} {Q : aw_R} (C : aw_C X cL_law RL 4 10) (Z : aw_Z X cL_law (some .boolean) Q) (p1 : Nat) (p2 : Nat) (x3 : Int32) (h : aw_H) (HX : aw_S X 9999 len xs) (hh : sm_L_law_589 (fun (p1 : Nat) (p2 : Nat) (x3 : Int32) (h : aw_H) => Sat X 18 [.ref 9999, .ref p1, .ref p2, .int x3] [] h) len xs Q p1 p2 x3 h) : Sat X 589 [.ref 9999, .ref p1, .ref p2, .int x3] [] h := by
  unfold sm_L_law_589 at hh
  refine ow_aload_n C dL_law_589 rfl rfl ?_
  refine ow_callV C (cv_X6_undo _) (Nat.le_of_ble_eq_true rfl) kw_896 dL_law_590 (as := []) (st := []) rfl rfl (Nat.le_of_ble_eq_true rfl) hh (fun r2 h1 hq => ?_)
  obtain ⟨v3, rfl, hh⟩ := sr_I_e hq
  show Sat X 593 [.ref 9999, .ref p1, .ref p2, .int x3] [.int v3] h1
  refine ow_aload_n C dL_law_593 rfl rfl ?_
  refine ow_callV C (cv_X7_undo _) (Nat.le_of_ble_eq_true rfl) kw_897 dL_law_594 (as := []) (st := [.int v3]) rfl rfl (Nat.le_of_ble_eq_true rfl) hh (fun r5 h4 hq => ?_)
  obtain ⟨v6, rfl, hh⟩ := sr_I_e hq
  show Sat X 597 [.ref 9999, .ref p1, .ref p2, .int x3] [.int v6, .int v3] h4
  refine ow_icmp_eq (tgt := 1373) C dL_law_597 (by decide) hh (fun hh => ?_) (fun hh => ?_)
  · skip
    exact Sat.mask (bl_L_law_1373 C Z p1 p2 x3 h4 HX hh) (mk_y (mk_y (mk_y (mk_y mk_0))))
  · skip
    refine ow_iconst (v := 0) C dL_law_600 rfl ?_
    exact ow_iret Z dL_law_601 (Or.inl rfl) hh
def sm_L_law_566 (K18 : Nat → Nat → Int32 → aw_H → Prop) (len : Nat) (xs : Nat → Int32) (Q : aw_R) (p1 : Nat) (p2 : Nat) (x3 : Int32) (h : aw_H) : Prop :=
  sx_I len xs (x3 + 1) fun v1 => sv_O h p1 5 (tr_X6_drift [.ref p1, .int v1] h fun r3 h2 => sr_I r3 fun v4 => sx_I len xs (x3 + 1) fun v5 => sv_O h2 p2 6 (tr_X7_drift [.ref p2, .int v5] h2 fun r7 h6 => sr_I r7 fun v8 => if v4 = v8 then (sm_L_law_1373 K18 len xs Q p1 p2 x3 h6) else (Q (some (.int 0)) h6)))
set_option maxRecDepth 100000 in
set_option maxHeartbeats 4000000 in
theorem bl_L_law_566 {len : Nat} {xs : Nat → Int32} {X : aw_X} {Q : aw_R} (C : aw_C X cL_law RL 4 10) (Z : aw_Z X cL_law (some .boolean) Q) (p1 : Nat) (p2 : Nat) (x3 : Int32) (h : aw_H) (HX : aw_S X 9999 len xs) (hh : sm_L_law_566 (fun (p1 : Nat) (p2 : Nat) (x3 : Int32) (h : aw_H) => Sat X 18 [.ref 9999, .ref p1, .ref p2, .int x3] [] h) len xs Q p1 p2 x3 h) : Sat X 566 [.ref 9999, .ref p1, .ref p2, .int x3] [] h := by
  unfold sm_L_law_566 at hh
  refine ow_aload_n C dL_law_566 rfl rfl ?_
  refine ow_aload_n C dL_law_567 rfl rfl ?_
  refine ow_iload_n C dL_law_568 rfl rfl ?_
  refine ow_iconst (v := 1) C dL_law_569 rfl ?_
  refine ow_iadd C dL_law_570 ?_
  refine ow_sld C HX dL_law_571 hh (fun v1 hh => ?_)
  refine ow_callV C (cv_X6_drift _) (Nat.le_of_ble_eq_true rfl) kw_898 dL_law_572 (as := [.int v1]) (st := []) rfl rfl (Nat.le_of_ble_eq_true rfl) hh (fun r3 h2 hq => ?_)
  obtain ⟨v4, rfl, hh⟩ := sr_I_e hq
  show Sat X 575 [.ref 9999, .ref p1, .ref p2, .int x3] [.int v4] h2
  refine ow_aload_n C dL_law_575 rfl rfl ?_
  refine ow_aload_n C dL_law_576 rfl rfl ?_
  refine ow_iload_n C dL_law_577 rfl rfl ?_
  refine ow_iconst (v := 1) C dL_law_578 rfl ?_
  refine ow_iadd C dL_law_579 ?_
  refine ow_sld C HX dL_law_580 hh (fun v5 hh => ?_)
  refine ow_callV C (cv_X7_drift _) (Nat.le_of_ble_eq_true rfl) kw_899 dL_law_581 (as := [.int v5]) (st := [.int v4]) rfl rfl (Nat.le_of_ble_eq_true rfl) hh (fun r7 h6 hq => ?_)
  obtain ⟨v8, rfl, hh⟩ := sr_I_e hq
  show Sat X 584 [.ref 9999, .ref p1, .ref p2, .int x3] [.int v8, .int v4] h6
  refine ow_icmp_eq (tgt := 1373) C dL_law_584 (by decide) hh (fun hh => ?_) (fun hh => ?_)
  · skip
    exact Sat.mask (bl_L_law_1373 C Z p1 p2 x3 h6 HX hh) (mk_y (mk_y (mk_y (mk_y mk_0))))
  · skip
    refine ow_iconst (v := 0) C dL_law_587 rfl ?_
    exact ow_iret Z dL_law_588 (Or.inl rfl) hh
def sm_L_law_533 (K18 : Nat → Nat → Int32 → aw_H → Prop) (len : Nat) (xs : Nat → Int32) (Q : aw_R) (p1 : Nat) (p2 : Nat) (x3 : Int32) (h : aw_H) : Prop :=
  sx_I len xs (x3 + 1) fun v1 => sx_I len xs (x3 + 2) fun v2 => sv_O h p1 5 (tr_X6_move [.ref p1, .int v1, .int v2] h fun r4 h3 => sr_I r4 fun v5 => sx_I len xs (x3 + 1) fun v6 => sx_I len xs (x3 + 2) fun v7 => sv_O h3 p2 6 (tr_X7_move [.ref p2, .int v6, .int v7] h3 fun r9 h8 => sr_I r9 fun v10 => if v5 = v10 then (sm_L_law_1373 K18 len xs Q p1 p2 x3 h8) else (Q (some (.int 0)) h8)))
set_option maxRecDepth 100000 in
set_option maxHeartbeats 4000000 in
theorem bl_L_law_533 {len : Nat} {xs : Nat → Int32} {X : aw_X} {Q : aw_R} (C : aw_C X cL_law RL 4 10) (Z : aw_Z X cL_law (some .boolean) Q) (p1 : Nat) (p2 : Nat) (x3 : Int32) (h : aw_H) (HX : aw_S X 9999 len xs) (hh : sm_L_law_533 (fun (p1 : Nat) (p2 : Nat) (x3 : Int32) (h : aw_H) => Sat X 18 [.ref 9999, .ref p1, .ref p2, .int x3] [] h) len xs Q p1 p2 x3 h) : Sat X 533 [.ref 9999, .ref p1, .ref p2, .int x3] [] h := by
  unfold sm_L_law_533 at hh
  refine ow_aload_n C dL_law_533 rfl rfl ?_
  refine ow_aload_n C dL_law_534 rfl rfl ?_
  refine ow_iload_n C dL_law_535 rfl rfl ?_
  refine ow_iconst (v := 1) C dL_law_536 rfl ?_
  refine ow_iadd C dL_law_537 ?_
  refine ow_sld C HX dL_law_538 hh (fun v1 hh => ?_)
  refine ow_aload_n C dL_law_539 rfl rfl ?_
  refine ow_iload_n C dL_law_540 rfl rfl ?_
  refine ow_iconst (v := 2) C dL_law_541 rfl ?_
  refine ow_iadd C dL_law_542 ?_
  refine ow_sld C HX dL_law_543 hh (fun v2 hh => ?_)
  refine ow_callV C (cv_X6_move _) (Nat.le_of_ble_eq_true rfl) kw_900 dL_law_544 (as := [.int v1, .int v2]) (st := []) rfl rfl (Nat.le_of_ble_eq_true rfl) hh (fun r4 h3 hq => ?_)
  obtain ⟨v5, rfl, hh⟩ := sr_I_e hq
  show Sat X 547 [.ref 9999, .ref p1, .ref p2, .int x3] [.int v5] h3
  refine ow_aload_n C dL_law_547 rfl rfl ?_
  refine ow_aload_n C dL_law_548 rfl rfl ?_
  refine ow_iload_n C dL_law_549 rfl rfl ?_
  refine ow_iconst (v := 1) C dL_law_550 rfl ?_
  refine ow_iadd C dL_law_551 ?_
  refine ow_sld C HX dL_law_552 hh (fun v6 hh => ?_)
  refine ow_aload_n C dL_law_553 rfl rfl ?_
  refine ow_iload_n C dL_law_554 rfl rfl ?_
  refine ow_iconst (v := 2) C dL_law_555 rfl ?_
  refine ow_iadd C dL_law_556 ?_
  refine ow_sld C HX dL_law_557 hh (fun v7 hh => ?_)
  refine ow_callV C (cv_X7_move _) (Nat.le_of_ble_eq_true rfl) kw_901 dL_law_558 (as := [.int v6, .int v7]) (st := [.int v5]) rfl rfl (Nat.le_of_ble_eq_true rfl) hh (fun r9 h8 hq => ?_)
  obtain ⟨v10, rfl, hh⟩ := sr_I_e hq
  show Sat X 561 [.ref 9999, .ref p1, .ref p2, .int x3] [.int v10, .int v5] h8
  refine ow_icmp_eq (tgt := 1373) C dL_law_561 (by decide) hh (fun hh => ?_) (fun hh => ?_)
  · skip
    exact Sat.mask (bl_L_law_1373 C Z p1 p2 x3 h8 HX hh) (mk_y (mk_y (mk_y (mk_y mk_0))))
  · skip
    refine ow_iconst (v := 0) C dL_law_564 rfl ?_
    exact ow_iret Z dL_law_565 (Or.inl rfl) hh
def sm_L_law_510 (K18 : Nat → Nat → Int32 → aw_H → Prop) (len : Nat) (xs : Nat → Int32) (Q : aw_R) (p1 : Nat) (p2 : Nat) (x3 : Int32) (h : aw_H) : Prop :=
  sx_I len xs (x3 + 1) fun v1 => sv_O h p1 5 (tr_X6_heal [.ref p1, .int v1] h fun r3 h2 => sr_I r3 fun v4 => sx_I len xs (x3 + 1) fun v5 => sv_O h2 p2 6 (tr_X7_heal [.ref p2, .int v5] h2 fun r7 h6 => sr_I r7 fun v8 => if v4 = v8 then (sm_L_law_1373 K18 len xs Q p1 p2 x3 h6) else (Q (some (.int 0)) h6)))
set_option maxRecDepth 100000 in
set_option maxHeartbeats 4000000 in
theorem bl_L_law_510 {len : Nat} {xs : Nat → Int32} {X : aw_X} {Q : aw_R} (C : aw_C X cL_law RL 4 10) (Z : aw_Z X cL_law (some .boolean) Q) (p1 : Nat) (p2 : Nat) (x3 : Int32) (h : aw_H) (HX : aw_S X 9999 len xs) (hh : sm_L_law_510 (fun (p1 : Nat) (p2 : Nat) (x3 : Int32) (h : aw_H) => Sat X 18 [.ref 9999, .ref p1, .ref p2, .int x3] [] h) len xs Q p1 p2 x3 h) : Sat X 510 [.ref 9999, .ref p1, .ref p2, .int x3] [] h := by
  unfold sm_L_law_510 at hh
  refine ow_aload_n C dL_law_510 rfl rfl ?_
  refine ow_aload_n C dL_law_511 rfl rfl ?_
  refine ow_iload_n C dL_law_512 rfl rfl ?_
  refine ow_iconst (v := 1) C dL_law_513 rfl ?_
  refine ow_iadd C dL_law_514 ?_
  refine ow_sld C HX dL_law_515 hh (fun v1 hh => ?_)
  refine ow_callV C (cv_X6_heal _) (Nat.le_of_ble_eq_true rfl) kw_902 dL_law_516 (as := [.int v1]) (st := []) rfl rfl (Nat.le_of_ble_eq_true rfl) hh (fun r3 h2 hq => ?_)
  obtain ⟨v4, rfl, hh⟩ := sr_I_e hq
  show Sat X 519 [.ref 9999, .ref p1, .ref p2, .int x3] [.int v4] h2
  refine ow_aload_n C dL_law_519 rfl rfl ?_
  refine ow_aload_n C dL_law_520 rfl rfl ?_
  refine ow_iload_n C dL_law_521 rfl rfl ?_
  refine ow_iconst (v := 1) C dL_law_522 rfl ?_
  refine ow_iadd C dL_law_523 ?_
  refine ow_sld C HX dL_law_524 hh (fun v5 hh => ?_)
  refine ow_callV C (cv_X7_heal _) (Nat.le_of_ble_eq_true rfl) kw_903 dL_law_525 (as := [.int v5]) (st := [.int v4]) rfl rfl (Nat.le_of_ble_eq_true rfl) hh (fun r7 h6 hq => ?_)
  obtain ⟨v8, rfl, hh⟩ := sr_I_e hq
  show Sat X 528 [.ref 9999, .ref p1, .ref p2, .int x3] [.int v8, .int v4] h6
  refine ow_icmp_eq (tgt := 1373) C dL_law_528 (by decide) hh (fun hh => ?_) (fun hh => ?_)
  · skip
    exact Sat.mask (bl_L_law_1373 C Z p1 p2 x3 h6 HX hh) (mk_y (mk_y (mk_y (mk_y mk_0))))
  · skip
    refine ow_iconst (v := 0) C dL_law_531 rfl ?_
    exact ow_iret Z dL_law_532 (Or.inl rfl) hh
def sm_L_law_487 (K18 : Nat → Nat → Int32 → aw_H → Prop) (len : Nat) (xs : Nat → Int32) (Q : aw_R) (p1 : Nat) (p2 : Nat) (x3 : Int32) (h : aw_H) : Prop :=
  sx_I len xs (x3 + 1) fun v1 => sv_O h p1 5 (tr_X6_kill [.ref p1, .int v1] h fun r3 h2 => sr_I r3 fun v4 => sx_I len xs (x3 + 1) fun v5 => sv_O h2 p2 6 (tr_X7_kill [.ref p2, .int v5] h2 fun r7 h6 => sr_I r7 fun v8 => if v4 = v8 then (sm_L_law_1373 K18 len xs Q p1 p2 x3 h6) else (Q (some (.int 0)) h6)))
set_option maxRecDepth 100000 in
set_option maxHeartbeats 4000000 in
theorem bl_L_law_487 {len : Nat} {xs : Nat → Int32} {X : aw_X} {Q : aw_R} (C : aw_C X cL_law RL 4 10) (Z : aw_Z X cL_law (some .boolean) Q) (p1 : Nat) (p2 : Nat) (x3 : Int32) (h : aw_H) (HX : aw_S X 9999 len xs) (hh : sm_L_law_487 (fun (p1 : Nat) (p2 : Nat) (x3 : Int32) (h : aw_H) => Sat X 18 [.ref 9999, .ref p1, .ref p2, .int x3] [] h) len xs Q p1 p2 x3 h) : Sat X 487 [.ref 9999, .ref p1, .ref p2, .int x3] [] h := by
  unfold sm_L_law_487 at hh
  refine ow_aload_n C dL_law_487 rfl rfl ?_
  refine ow_aload_n C dL_law_488 rfl rfl ?_
  refine ow_iload_n C dL_law_489 rfl rfl ?_
  refine ow_iconst (v := 1) C dL_law_490 rfl ?_
  refine ow_iadd C dL_law_491 ?_
  refine ow_sld C HX dL_law_492 hh (fun v1 hh => ?_)
  refine ow_callV C (cv_X6_kill _) (Nat.le_of_ble_eq_true rfl) kw_904 dL_law_493 (as := [.int v1]) (st := []) rfl rfl (Nat.le_of_ble_eq_true rfl) hh (fun r3 h2 hq => ?_)
  obtain ⟨v4, rfl, hh⟩ := sr_I_e hq
  show Sat X 496 [.ref 9999, .ref p1, .ref p2, .int x3] [.int v4] h2
  refine ow_aload_n C dL_law_496 rfl rfl ?_
  refine ow_aload_n C dL_law_497 rfl rfl ?_
  refine ow_iload_n C dL_law_498 rfl rfl ?_
  refine ow_iconst (v := 1) C dL_law_499 rfl ?_
  refine ow_iadd C dL_law_500 ?_
  refine ow_sld C HX dL_law_501 hh (fun v5 hh => ?_)
  refine ow_callV C (cv_X7_kill _) (Nat.le_of_ble_eq_true rfl) kw_905 dL_law_502 (as := [.int v5]) (st := [.int v4]) rfl rfl (Nat.le_of_ble_eq_true rfl) hh (fun r7 h6 hq => ?_)
  obtain ⟨v8, rfl, hh⟩ := sr_I_e hq
  show Sat X 505 [.ref 9999, .ref p1, .ref p2, .int x3] [.int v8, .int v4] h6
  refine ow_icmp_eq (tgt := 1373) C dL_law_505 (by decide) hh (fun hh => ?_) (fun hh => ?_)
  · skip
    exact Sat.mask (bl_L_law_1373 C Z p1 p2 x3 h6 HX hh) (mk_y (mk_y (mk_y (mk_y mk_0))))
  · skip
    refine ow_iconst (v := 0) C dL_law_508 rfl ?_
    exact ow_iret Z dL_law_509 (Or.inl rfl) hh
def sm_L_law_464 (K18 : Nat → Nat → Int32 → aw_H → Prop) (len : Nat) (xs : Nat → Int32) (Q : aw_R) (p1 : Nat) (p2 : Nat) (x3 : Int32) (h : aw_H) : Prop :=
  sx_I len xs (x3 + 1) fun v1 => sv_O h p1 5 (tr_X6_flip [.ref p1, .int v1] h fun r3 h2 => sr_I r3 fun v4 => sx_I len xs (x3 + 1) fun v5 => sv_O h2 p2 6 (tr_X7_flip [.ref p2, .int v5] h2 fun r7 h6 => sr_I r7 fun v8 => if v4 = v8 then (sm_L_law_1373 K18 len xs Q p1 p2 x3 h6) else (Q (some (.int 0)) h6)))
set_option maxRecDepth 100000 in
set_option maxHeartbeats 4000000 in
theorem bl_L_law_464 {len : Nat} {xs : Nat → Int32} {X : aw_X} {Q : aw_R} (C : aw_C X cL_law RL 4 10) (Z : aw_Z X cL_law (some .boolean) Q) (p1 : Nat) (p2 : Nat) (x3 : Int32) (h : aw_H) (HX : aw_S X 9999 len xs) (hh : sm_L_law_464 (fun (p1 : Nat) (p2 : Nat) (x3 : Int32) (h : aw_H) => Sat X 18 [.ref 9999, .ref p1, .ref p2, .int x3] [] h) len xs Q p1 p2 x3 h) : Sat X 464 [.ref 9999, .ref p1, .ref p2, .int x3] [] h := by
  unfold sm_L_law_464 at hh
  refine ow_aload_n C dL_law_464 rfl rfl ?_
  refine ow_aload_n C dL_law_465 rfl rfl ?_
  refine ow_iload_n C dL_law_466 rfl rfl ?_
  refine ow_iconst (v := 1) C dL_law_467 rfl ?_
  refine ow_iadd C dL_law_468 ?_
  refine ow_sld C HX dL_law_469 hh (fun v1 hh => ?_)
  refine ow_callV C (cv_X6_flip _) (Nat.le_of_ble_eq_true rfl) kw_906 dL_law_470 (as := [.int v1]) (st := []) rfl rfl (Nat.le_of_ble_eq_true rfl) hh (fun r3 h2 hq => ?_)
  obtain ⟨v4, rfl, hh⟩ := sr_I_e hq
  show Sat X 473 [.ref 9999, .ref p1, .ref p2, .int x3] [.int v4] h2
  refine ow_aload_n C dL_law_473 rfl rfl ?_
  refine ow_aload_n C dL_law_474 rfl rfl ?_
  refine ow_iload_n C dL_law_475 rfl rfl ?_
  refine ow_iconst (v := 1) C dL_law_476 rfl ?_
  refine ow_iadd C dL_law_477 ?_
  refine ow_sld C HX dL_law_478 hh (fun v5 hh => ?_)
  refine ow_callV C (cv_X7_flip _) (Nat.le_of_ble_eq_true rfl) kw_907 dL_law_479 (as := [.int v5]) (st := [.int v4]) rfl rfl (Nat.le_of_ble_eq_true rfl) hh (fun r7 h6 hq => ?_)
  obtain ⟨v8, rfl, hh⟩ := sr_I_e hq
  show Sat X 482 [.ref 9999, .ref p1, .ref p2, .int x3] [.int v8, .int v4] h6
  refine ow_icmp_eq (tgt := 1373) C dL_law_482 (by decide) hh (fun hh => ?_) (fun hh => ?_)
  · skip
    exact Sat.mask (bl_L_law_1373 C Z p1 p2 x3 h6 HX hh) (mk_y (mk_y (mk_y (mk_y mk_0))))
  · skip
    refine ow_iconst (v := 0) C dL_law_485 rfl ?_
    exact ow_iret Z dL_law_486 (Or.inl rfl) hh
def sm_L_law_451 (K18 : Nat → Nat → Int32 → aw_H → Prop) (len : Nat) (xs : Nat → Int32) (Q : aw_R) (p1 : Nat) (p2 : Nat) (x3 : Int32) (h : aw_H) : Prop :=
  sv_O h p1 5 (tr_X6_home [.ref p1] h fun r2 h1 => sr_I r2 fun v3 => sv_O h1 p2 6 (tr_X7_home [.ref p2] h1 fun r5 h4 => sr_I r5 fun v6 => if v3 = v6 then (sm_L_law_1373 K18 len xs Q p1 p2 x3 h4) else (Q (some (.int 0)) h4)))
set_option maxRecDepth 100000 in
set_option maxHeartbeats 4000000 in
theorem bl_L_law_451 {len : Nat} {xs : Nat → Int32} {X : aw_X} {Q : aw_R} (C : aw_C X cL_law RL 4 10) (Z : aw_Z X cL_law (some .boolean) Q) (p1 : Nat) (p2 : Nat) (x3 : Int32) (h : aw_H) (HX : aw_S X 9999 len xs) (hh : sm_L_law_451 (fun (p1 : Nat) (p2 : Nat) (x3 : Int32) (h : aw_H) => Sat X 18 [.ref 9999, .ref p1, .ref p2, .int x3] [] h) len xs Q p1 p2 x3 h) : Sat X 451 [.ref 9999, .ref p1, .ref p2, .int x3] [] h := by
  unfold sm_L_law_451 at hh
  refine ow_aload_n C dL_law_451 rfl rfl ?_
  refine ow_callV C (cv_X6_home _) (Nat.le_of_ble_eq_true rfl) kw_908 dL_law_452 (as := []) (st := []) rfl rfl (Nat.le_of_ble_eq_true rfl) hh (fun r2 h1 hq => ?_)
  obtain ⟨v3, rfl, hh⟩ := sr_I_e hq
  show Sat X 455 [.ref 9999, .ref p1, .ref p2, .int x3] [.int v3] h1
  refine ow_aload_n C dL_law_455 rfl rfl ?_
  refine ow_callV C (cv_X7_home _) (Nat.le_of_ble_eq_true rfl) kw_909 dL_law_456 (as := []) (st := [.int v3]) rfl rfl (Nat.le_of_ble_eq_true rfl) hh (fun r5 h4 hq => ?_)
  obtain ⟨v6, rfl, hh⟩ := sr_I_e hq
  show Sat X 459 [.ref 9999, .ref p1, .ref p2, .int x3] [.int v6, .int v3] h4
  refine ow_icmp_eq (tgt := 1373) C dL_law_459 (by decide) hh (fun hh => ?_) (fun hh => ?_)
  · skip
    exact Sat.mask (bl_L_law_1373 C Z p1 p2 x3 h4 HX hh) (mk_y (mk_y (mk_y (mk_y mk_0))))
  · skip
    refine ow_iconst (v := 0) C dL_law_462 rfl ?_
    exact ow_iret Z dL_law_463 (Or.inl rfl) hh
def sm_L_law_428 (K18 : Nat → Nat → Int32 → aw_H → Prop) (len : Nat) (xs : Nat → Int32) (Q : aw_R) (p1 : Nat) (p2 : Nat) (x3 : Int32) (h : aw_H) : Prop :=
  sx_I len xs (x3 + 1) fun v1 => sv_O h p1 5 (tr_X6_back [.ref p1, .int v1] h fun r3 h2 => sr_I r3 fun v4 => sx_I len xs (x3 + 1) fun v5 => sv_O h2 p2 6 (tr_X7_back [.ref p2, .int v5] h2 fun r7 h6 => sr_I r7 fun v8 => if v4 = v8 then (sm_L_law_1373 K18 len xs Q p1 p2 x3 h6) else (Q (some (.int 0)) h6)))
set_option maxRecDepth 100000 in
set_option maxHeartbeats 4000000 in
theorem bl_L_law_428 {len : Nat} {xs : Nat → Int32} {X : aw_X} {Q : aw_R} (C : aw_C X cL_law RL 4 10) (Z : aw_Z X cL_law (some .boolean) Q) (p1 : Nat) (p2 : Nat) (x3 : Int32) (h : aw_H) (HX : aw_S X 9999 len xs) (hh : sm_L_law_428 (fun (p1 : Nat) (p2 : Nat) (x3 : Int32) (h : aw_H) => Sat X 18 [.ref 9999, .ref p1, .ref p2, .int x3] [] h) len xs Q p1 p2 x3 h) : Sat X 428 [.ref 9999, .ref p1, .ref p2, .int x3] [] h := by
  unfold sm_L_law_428 at hh
  refine ow_aload_n C dL_law_428 rfl rfl ?_
  refine ow_aload_n C dL_law_429 rfl rfl ?_
  refine ow_iload_n C dL_law_430 rfl rfl ?_
  refine ow_iconst (v := 1) C dL_law_431 rfl ?_
  refine ow_iadd C dL_law_432 ?_
  refine ow_sld C HX dL_law_433 hh (fun v1 hh => ?_)
  refine ow_callV C (cv_X6_back _) (Nat.le_of_ble_eq_true rfl) kw_910 dL_law_434 (as := [.int v1]) (st := []) rfl rfl (Nat.le_of_ble_eq_true rfl) hh (fun r3 h2 hq => ?_)
  obtain ⟨v4, rfl, hh⟩ := sr_I_e hq
  show Sat X 437 [.ref 9999, .ref p1, .ref p2, .int x3] [.int v4] h2
  refine ow_aload_n C dL_law_437 rfl rfl ?_
  refine ow_aload_n C dL_law_438 rfl rfl ?_
  refine ow_iload_n C dL_law_439 rfl rfl ?_
  refine ow_iconst (v := 1) C dL_law_440 rfl ?_
  refine ow_iadd C dL_law_441 ?_
  refine ow_sld C HX dL_law_442 hh (fun v5 hh => ?_)
  refine ow_callV C (cv_X7_back _) (Nat.le_of_ble_eq_true rfl) kw_911 dL_law_443 (as := [.int v5]) (st := [.int v4]) rfl rfl (Nat.le_of_ble_eq_true rfl) hh (fun r7 h6 hq => ?_)
  obtain ⟨v8, rfl, hh⟩ := sr_I_e hq
  show Sat X 446 [.ref 9999, .ref p1, .ref p2, .int x3] [.int v8, .int v4] h6
  refine ow_icmp_eq (tgt := 1373) C dL_law_446 (by decide) hh (fun hh => ?_) (fun hh => ?_)
  · skip
    exact Sat.mask (bl_L_law_1373 C Z p1 p2 x3 h6 HX hh) (mk_y (mk_y (mk_y (mk_y mk_0))))
  · skip
    refine ow_iconst (v := 0) C dL_law_449 rfl ?_
    exact ow_iret Z dL_law_450 (Or.inl rfl) hh
def sm_L_law_405 (K18 : Nat → Nat → Int32 → aw_H → Prop) (len : Nat) (xs : Nat → Int32) (Q : aw_R) (p1 : Nat) (p2 : Nat) (x3 : Int32) (h : aw_H) : Prop :=
  sx_I len xs (x3 + 1) fun v1 => sv_O h p1 5 (tr_X6_step [.ref p1, .int v1] h fun r3 h2 => sr_I r3 fun v4 => sx_I len xs (x3 + 1) fun v5 => sv_O h2 p2 6 (tr_X7_step [.ref p2, .int v5] h2 fun r7 h6 => sr_I r7 fun v8 => if v4 = v8 then (sm_L_law_1373 K18 len xs Q p1 p2 x3 h6) else (Q (some (.int 0)) h6)))
set_option maxRecDepth 100000 in
set_option maxHeartbeats 4000000 in
theorem bl_L_law_405 {len : Nat} {xs : Nat → Int32} {X : aw_X} {Q : aw_R} (C : aw_C X cL_law RL 4 10) (Z : aw_Z X cL_law (some .boolean) Q) (p1 : Nat) (p2 : Nat) (x3 : Int32) (h : aw_H) (HX : aw_S X 9999 len xs) (hh : sm_L_law_405 (fun (p1 : Nat) (p2 : Nat) (x3 : Int32) (h : aw_H) => Sat X 18 [.ref 9999, .ref p1, .ref p2, .int x3] [] h) len xs Q p1 p2 x3 h) : Sat X 405 [.ref 9999, .ref p1, .ref p2, .int x3] [] h := by
  unfold sm_L_law_405 at hh
  refine ow_aload_n C dL_law_405 rfl rfl ?_
  refine ow_aload_n C dL_law_406 rfl rfl ?_
  refine ow_iload_n C dL_law_407 rfl rfl ?_
  refine ow_iconst (v := 1) C dL_law_408 rfl ?_
  refine ow_iadd C dL_law_409 ?_
  refine ow_sld C HX dL_law_410 hh (fun v1 hh => ?_)
  refine ow_callV C (cv_X6_step _) (Nat.le_of_ble_eq_true rfl) kw_912 dL_law_411 (as := [.int v1]) (st := []) rfl rfl (Nat.le_of_ble_eq_true rfl) hh (fun r3 h2 hq => ?_)
  obtain ⟨v4, rfl, hh⟩ := sr_I_e hq
  show Sat X 414 [.ref 9999, .ref p1, .ref p2, .int x3] [.int v4] h2
  refine ow_aload_n C dL_law_414 rfl rfl ?_
  refine ow_aload_n C dL_law_415 rfl rfl ?_
  refine ow_iload_n C dL_law_416 rfl rfl ?_
  refine ow_iconst (v := 1) C dL_law_417 rfl ?_
  refine ow_iadd C dL_law_418 ?_
  refine ow_sld C HX dL_law_419 hh (fun v5 hh => ?_)
  refine ow_callV C (cv_X7_step _) (Nat.le_of_ble_eq_true rfl) kw_913 dL_law_420 (as := [.int v5]) (st := [.int v4]) rfl rfl (Nat.le_of_ble_eq_true rfl) hh (fun r7 h6 hq => ?_)
  obtain ⟨v8, rfl, hh⟩ := sr_I_e hq
  show Sat X 423 [.ref 9999, .ref p1, .ref p2, .int x3] [.int v8, .int v4] h6
  refine ow_icmp_eq (tgt := 1373) C dL_law_423 (by decide) hh (fun hh => ?_) (fun hh => ?_)
  · skip
    exact Sat.mask (bl_L_law_1373 C Z p1 p2 x3 h6 HX hh) (mk_y (mk_y (mk_y (mk_y mk_0))))
  · skip
    refine ow_iconst (v := 0) C dL_law_426 rfl ?_
    exact ow_iret Z dL_law_427 (Or.inl rfl) hh
def sm_L_law_382 (K18 : Nat → Nat → Int32 → aw_H → Prop) (len : Nat) (xs : Nat → Int32) (Q : aw_R) (p1 : Nat) (p2 : Nat) (x3 : Int32) (h : aw_H) : Prop :=
  sx_I len xs (x3 + 1) fun v1 => sv_O h p1 5 (tr_X6_count [.ref p1, .int v1] h fun r3 h2 => sr_I r3 fun v4 => sx_I len xs (x3 + 1) fun v5 => sv_O h2 p2 6 (tr_X7_count [.ref p2, .int v5] h2 fun r7 h6 => sr_I r7 fun v8 => if v4 = v8 then (sm_L_law_1373 K18 len xs Q p1 p2 x3 h6) else (Q (some (.int 0)) h6)))
set_option maxRecDepth 100000 in
set_option maxHeartbeats 4000000 in
theorem bl_L_law_382 {len : Nat} {xs : Nat → Int32} {X : aw_X} {Q : aw_R} (C : aw_C X cL_law RL 4 10) (Z : aw_Z X cL_law (some .boolean) Q) (p1 : Nat) (p2 : Nat) (x3 : Int32) (h : aw_H) (HX : aw_S X 9999 len xs) (hh : sm_L_law_382 (fun (p1 : Nat) (p2 : Nat) (x3 : Int32) (h : aw_H) => Sat X 18 [.ref 9999, .ref p1, .ref p2, .int x3] [] h) len xs Q p1 p2 x3 h) : Sat X 382 [.ref 9999, .ref p1, .ref p2, .int x3] [] h := by
  unfold sm_L_law_382 at hh
  refine ow_aload_n C dL_law_382 rfl rfl ?_
  refine ow_aload_n C dL_law_383 rfl rfl ?_
  refine ow_iload_n C dL_law_384 rfl rfl ?_
  refine ow_iconst (v := 1) C dL_law_385 rfl ?_
  refine ow_iadd C dL_law_386 ?_
  refine ow_sld C HX dL_law_387 hh (fun v1 hh => ?_)
  refine ow_callV C (cv_X6_count _) (Nat.le_of_ble_eq_true rfl) kw_914 dL_law_388 (as := [.int v1]) (st := []) rfl rfl (Nat.le_of_ble_eq_true rfl) hh (fun r3 h2 hq => ?_)
  obtain ⟨v4, rfl, hh⟩ := sr_I_e hq
  show Sat X 391 [.ref 9999, .ref p1, .ref p2, .int x3] [.int v4] h2
  refine ow_aload_n C dL_law_391 rfl rfl ?_
  refine ow_aload_n C dL_law_392 rfl rfl ?_
  refine ow_iload_n C dL_law_393 rfl rfl ?_
  refine ow_iconst (v := 1) C dL_law_394 rfl ?_
  refine ow_iadd C dL_law_395 ?_
  refine ow_sld C HX dL_law_396 hh (fun v5 hh => ?_)
  refine ow_callV C (cv_X7_count _) (Nat.le_of_ble_eq_true rfl) kw_915 dL_law_397 (as := [.int v5]) (st := [.int v4]) rfl rfl (Nat.le_of_ble_eq_true rfl) hh (fun r7 h6 hq => ?_)
  obtain ⟨v8, rfl, hh⟩ := sr_I_e hq
  show Sat X 400 [.ref 9999, .ref p1, .ref p2, .int x3] [.int v8, .int v4] h6
  refine ow_icmp_eq (tgt := 1373) C dL_law_400 (by decide) hh (fun hh => ?_) (fun hh => ?_)
  · skip
    exact Sat.mask (bl_L_law_1373 C Z p1 p2 x3 h6 HX hh) (mk_y (mk_y (mk_y (mk_y mk_0))))
  · skip
    refine ow_iconst (v := 0) C dL_law_403 rfl ?_
    exact ow_iret Z dL_law_404 (Or.inl rfl) hh
def sm_L_law_369 (K18 : Nat → Nat → Int32 → aw_H → Prop) (len : Nat) (xs : Nat → Int32) (Q : aw_R) (p1 : Nat) (p2 : Nat) (x3 : Int32) (h : aw_H) : Prop :=
  sv_O h p1 5 (tr_X6_circuit [.ref p1] h fun r2 h1 => sr_I r2 fun v3 => sv_O h1 p2 6 (tr_X7_circuit [.ref p2] h1 fun r5 h4 => sr_I r5 fun v6 => if v3 = v6 then (sm_L_law_1373 K18 len xs Q p1 p2 x3 h4) else (Q (some (.int 0)) h4)))
set_option maxRecDepth 100000 in
set_option maxHeartbeats 4000000 in
theorem bl_L_law_369 {len : Nat} {xs : Nat → Int32} {X : aw_X} {Q : aw_R} (C : aw_C X cL_law RL 4 10) (Z : aw_Z X cL_law (some .boolean) Q) (p1 : Nat) (p2 : Nat) (x3 : Int32) (h : aw_H) (HX : aw_S X 9999 len xs) (hh : sm_L_law_369 (fun (p1 : Nat) (p2 : Nat) (x3 : Int32) (h : aw_H) => Sat X 18 [.ref 9999, .ref p1, .ref p2, .int x3] [] h) len xs Q p1 p2 x3 h) : Sat X 369 [.ref 9999, .ref p1, .ref p2, .int x3] [] h := by
  unfold sm_L_law_369 at hh
  refine ow_aload_n C dL_law_369 rfl rfl ?_
  refine ow_callV C (cv_X6_circuit _) (Nat.le_of_ble_eq_true rfl) kw_916 dL_law_370 (as := []) (st := []) rfl rfl (Nat.le_of_ble_eq_true rfl) hh (fun r2 h1 hq => ?_)
  obtain ⟨v3, rfl, hh⟩ := sr_I_e hq
  show Sat X 373 [.ref 9999, .ref p1, .ref p2, .int x3] [.int v3] h1
  refine ow_aload_n C dL_law_373 rfl rfl ?_
  refine ow_callV C (cv_X7_circuit _) (Nat.le_of_ble_eq_true rfl) kw_917 dL_law_374 (as := []) (st := [.int v3]) rfl rfl (Nat.le_of_ble_eq_true rfl) hh (fun r5 h4 hq => ?_)
  obtain ⟨v6, rfl, hh⟩ := sr_I_e hq
  show Sat X 377 [.ref 9999, .ref p1, .ref p2, .int x3] [.int v6, .int v3] h4
  refine ow_icmp_eq (tgt := 1373) C dL_law_377 (by decide) hh (fun hh => ?_) (fun hh => ?_)
  · skip
    exact Sat.mask (bl_L_law_1373 C Z p1 p2 x3 h4 HX hh) (mk_y (mk_y (mk_y (mk_y mk_0))))
  · skip
    refine ow_iconst (v := 0) C dL_law_380 rfl ?_
    exact ow_iret Z dL_law_381 (Or.inl rfl) hh
def sm_L_law_346 (K18 : Nat → Nat → Int32 → aw_H → Prop) (len : Nat) (xs : Nat → Int32) (Q : aw_R) (p1 : Nat) (p2 : Nat) (x3 : Int32) (h : aw_H) : Prop :=
  sx_I len xs (x3 + 1) fun v1 => sv_O h p1 5 (tr_X6_type [.ref p1, .int v1] h fun r3 h2 => sr_I r3 fun v4 => sx_I len xs (x3 + 1) fun v5 => sv_O h2 p2 6 (tr_X7_type [.ref p2, .int v5] h2 fun r7 h6 => sr_I r7 fun v8 => if v4 = v8 then (sm_L_law_1373 K18 len xs Q p1 p2 x3 h6) else (Q (some (.int 0)) h6)))
set_option maxRecDepth 100000 in
set_option maxHeartbeats 4000000 in
theorem bl_L_law_346 {len : Nat} {xs : Nat → Int32} {X : aw_X} {Q : aw_R} (C : aw_C X cL_law RL 4 10) (Z : aw_Z X cL_law (some .boolean) Q) (p1 : Nat) (p2 : Nat) (x3 : Int32) (h : aw_H) (HX : aw_S X 9999 len xs) (hh : sm_L_law_346 (fun (p1 : Nat) (p2 : Nat) (x3 : Int32) (h : aw_H) => Sat X 18 [.ref 9999, .ref p1, .ref p2, .int x3] [] h) len xs Q p1 p2 x3 h) : Sat X 346 [.ref 9999, .ref p1, .ref p2, .int x3] [] h := by
  unfold sm_L_law_346 at hh
  refine ow_aload_n C dL_law_346 rfl rfl ?_
  refine ow_aload_n C dL_law_347 rfl rfl ?_
  refine ow_iload_n C dL_law_348 rfl rfl ?_
  refine ow_iconst (v := 1) C dL_law_349 rfl ?_
  refine ow_iadd C dL_law_350 ?_
  refine ow_sld C HX dL_law_351 hh (fun v1 hh => ?_)
  refine ow_callV C (cv_X6_type _) (Nat.le_of_ble_eq_true rfl) kw_918 dL_law_352 (as := [.int v1]) (st := []) rfl rfl (Nat.le_of_ble_eq_true rfl) hh (fun r3 h2 hq => ?_)
  obtain ⟨v4, rfl, hh⟩ := sr_I_e hq
  show Sat X 355 [.ref 9999, .ref p1, .ref p2, .int x3] [.int v4] h2
  refine ow_aload_n C dL_law_355 rfl rfl ?_
  refine ow_aload_n C dL_law_356 rfl rfl ?_
  refine ow_iload_n C dL_law_357 rfl rfl ?_
  refine ow_iconst (v := 1) C dL_law_358 rfl ?_
  refine ow_iadd C dL_law_359 ?_
  refine ow_sld C HX dL_law_360 hh (fun v5 hh => ?_)
  refine ow_callV C (cv_X7_type _) (Nat.le_of_ble_eq_true rfl) kw_919 dL_law_361 (as := [.int v5]) (st := [.int v4]) rfl rfl (Nat.le_of_ble_eq_true rfl) hh (fun r7 h6 hq => ?_)
  obtain ⟨v8, rfl, hh⟩ := sr_I_e hq
  show Sat X 364 [.ref 9999, .ref p1, .ref p2, .int x3] [.int v8, .int v4] h6
  refine ow_icmp_eq (tgt := 1373) C dL_law_364 (by decide) hh (fun hh => ?_) (fun hh => ?_)
  · skip
    exact Sat.mask (bl_L_law_1373 C Z p1 p2 x3 h6 HX hh) (mk_y (mk_y (mk_y (mk_y mk_0))))
  · skip
    refine ow_iconst (v := 0) C dL_law_367 rfl ?_
    exact ow_iret Z dL_law_368 (Or.inl rfl) hh
def sm_L_law_313 (K18 : Nat → Nat → Int32 → aw_H → Prop) (len : Nat) (xs : Nat → Int32) (Q : aw_R) (p1 : Nat) (p2 : Nat) (x3 : Int32) (h : aw_H) : Prop :=
  sx_I len xs (x3 + 1) fun v1 => sx_I len xs (x3 + 2) fun v2 => sv_O h p1 5 (tr_X6_does [.ref p1, .int v1, .int v2] h fun r4 h3 => sr_I r4 fun v5 => sx_I len xs (x3 + 1) fun v6 => sx_I len xs (x3 + 2) fun v7 => sv_O h3 p2 6 (tr_X7_does [.ref p2, .int v6, .int v7] h3 fun r9 h8 => sr_I r9 fun v10 => if v5 = v10 then (sm_L_law_1373 K18 len xs Q p1 p2 x3 h8) else (Q (some (.int 0)) h8)))
set_option maxRecDepth 100000 in
set_option maxHeartbeats 4000000 in
theorem bl_L_law_313 {len : Nat} {xs : Nat → Int32} {X : aw_X} {Q : aw_R} (C : aw_C X cL_law RL 4 10) (Z : aw_Z X cL_law (some .boolean) Q) (p1 : Nat) (p2 : Nat) (x3 : Int32) (h : aw_H) (HX : aw_S X 9999 len xs) (hh : sm_L_law_313 (fun (p1 : Nat) (p2 : Nat) (x3 : Int32) (h : aw_H) => Sat X 18 [.ref 9999, .ref p1, .ref p2, .int x3] [] h) len xs Q p1 p2 x3 h) : Sat X 313 [.ref 9999, .ref p1, .ref p2, .int x3] [] h := by
  unfold sm_L_law_313 at hh
  refine ow_aload_n C dL_law_313 rfl rfl ?_
  refine ow_aload_n C dL_law_314 rfl rfl ?_
  refine ow_iload_n C dL_law_315 rfl rfl ?_
  refine ow_iconst (v := 1) C dL_law_316 rfl ?_
  refine ow_iadd C dL_law_317 ?_
  refine ow_sld C HX dL_law_318 hh (fun v1 hh => ?_)
  refine ow_aload_n C dL_law_319 rfl rfl ?_
  refine ow_iload_n C dL_law_320 rfl rfl ?_
  refine ow_iconst (v := 2) C dL_law_321 rfl ?_
  refine ow_iadd C dL_law_322 ?_
  refine ow_sld C HX dL_law_323 hh (fun v2 hh => ?_)
  refine ow_callV C (cv_X6_does _) (Nat.le_of_ble_eq_true rfl) kw_920 dL_law_324 (as := [.int v1, .int v2]) (st := []) rfl rfl (Nat.le_of_ble_eq_true rfl) hh (fun r4 h3 hq => ?_)
  obtain ⟨v5, rfl, hh⟩ := sr_I_e hq
  show Sat X 327 [.ref 9999, .ref p1, .ref p2, .int x3] [.int v5] h3
  refine ow_aload_n C dL_law_327 rfl rfl ?_
  refine ow_aload_n C dL_law_328 rfl rfl ?_
  refine ow_iload_n C dL_law_329 rfl rfl ?_
  refine ow_iconst (v := 1) C dL_law_330 rfl ?_
  refine ow_iadd C dL_law_331 ?_
  refine ow_sld C HX dL_law_332 hh (fun v6 hh => ?_)
  refine ow_aload_n C dL_law_333 rfl rfl ?_
  refine ow_iload_n C dL_law_334 rfl rfl ?_
  refine ow_iconst (v := 2) C dL_law_335 rfl ?_
  refine ow_iadd C dL_law_336 ?_
  refine ow_sld C HX dL_law_337 hh (fun v7 hh => ?_)
  refine ow_callV C (cv_X7_does _) (Nat.le_of_ble_eq_true rfl) kw_921 dL_law_338 (as := [.int v6, .int v7]) (st := [.int v5]) rfl rfl (Nat.le_of_ble_eq_true rfl) hh (fun r9 h8 hq => ?_)
  obtain ⟨v10, rfl, hh⟩ := sr_I_e hq
  show Sat X 341 [.ref 9999, .ref p1, .ref p2, .int x3] [.int v10, .int v5] h8
  refine ow_icmp_eq (tgt := 1373) C dL_law_341 (by decide) hh (fun hh => ?_) (fun hh => ?_)
  · skip
    exact Sat.mask (bl_L_law_1373 C Z p1 p2 x3 h8 HX hh) (mk_y (mk_y (mk_y (mk_y mk_0))))
  · skip
    refine ow_iconst (v := 0) C dL_law_344 rfl ?_
    exact ow_iret Z dL_law_345 (Or.inl rfl) hh
def sm_L_law_280 (K18 : Nat → Nat → Int32 → aw_H → Prop) (len : Nat) (xs : Nat → Int32) (Q : aw_R) (p1 : Nat) (p2 : Nat) (x3 : Int32) (h : aw_H) : Prop :=
  sx_I len xs (x3 + 1) fun v1 => sx_I len xs (x3 + 2) fun v2 => sv_O h p1 5 (tr_X6_of [.ref p1, .int v1, .int v2] h fun r4 h3 => sr_I r4 fun v5 => sx_I len xs (x3 + 1) fun v6 => sx_I len xs (x3 + 2) fun v7 => sv_O h3 p2 6 (tr_X7_of [.ref p2, .int v6, .int v7] h3 fun r9 h8 => sr_I r9 fun v10 => if v5 = v10 then (sm_L_law_1373 K18 len xs Q p1 p2 x3 h8) else (Q (some (.int 0)) h8)))
set_option maxRecDepth 100000 in
set_option maxHeartbeats 4000000 in
theorem bl_L_law_280 {len : Nat} {xs : Nat → Int32} {X : aw_X} {Q : aw_R} (C : aw_C X cL_law RL 4 10) (Z : aw_Z X cL_law (some .boolean) Q) (p1 : Nat) (p2 : Nat) (x3 : Int32) (h : aw_H) (HX : aw_S X 9999 len xs) (hh : sm_L_law_280 (fun (p1 : Nat) (p2 : Nat) (x3 : Int32) (h : aw_H) => Sat X 18 [.ref 9999, .ref p1, .ref p2, .int x3] [] h) len xs Q p1 p2 x3 h) : Sat X 280 [.ref 9999, .ref p1, .ref p2, .int x3] [] h := by
  unfold sm_L_law_280 at hh
  refine ow_aload_n C dL_law_280 rfl rfl ?_
  refine ow_aload_n C dL_law_281 rfl rfl ?_
  refine ow_iload_n C dL_law_282 rfl rfl ?_
  refine ow_iconst (v := 1) C dL_law_283 rfl ?_
  refine ow_iadd C dL_law_284 ?_
  refine ow_sld C HX dL_law_285 hh (fun v1 hh => ?_)
  refine ow_aload_n C dL_law_286 rfl rfl ?_
  refine ow_iload_n C dL_law_287 rfl rfl ?_
  refine ow_iconst (v := 2) C dL_law_288 rfl ?_
  refine ow_iadd C dL_law_289 ?_
  refine ow_sld C HX dL_law_290 hh (fun v2 hh => ?_)
  refine ow_callV C (cv_X6_of _) (Nat.le_of_ble_eq_true rfl) kw_922 dL_law_291 (as := [.int v1, .int v2]) (st := []) rfl rfl (Nat.le_of_ble_eq_true rfl) hh (fun r4 h3 hq => ?_)
  obtain ⟨v5, rfl, hh⟩ := sr_I_e hq
  show Sat X 294 [.ref 9999, .ref p1, .ref p2, .int x3] [.int v5] h3
  refine ow_aload_n C dL_law_294 rfl rfl ?_
  refine ow_aload_n C dL_law_295 rfl rfl ?_
  refine ow_iload_n C dL_law_296 rfl rfl ?_
  refine ow_iconst (v := 1) C dL_law_297 rfl ?_
  refine ow_iadd C dL_law_298 ?_
  refine ow_sld C HX dL_law_299 hh (fun v6 hh => ?_)
  refine ow_aload_n C dL_law_300 rfl rfl ?_
  refine ow_iload_n C dL_law_301 rfl rfl ?_
  refine ow_iconst (v := 2) C dL_law_302 rfl ?_
  refine ow_iadd C dL_law_303 ?_
  refine ow_sld C HX dL_law_304 hh (fun v7 hh => ?_)
  refine ow_callV C (cv_X7_of _) (Nat.le_of_ble_eq_true rfl) kw_923 dL_law_305 (as := [.int v6, .int v7]) (st := [.int v5]) rfl rfl (Nat.le_of_ble_eq_true rfl) hh (fun r9 h8 hq => ?_)
  obtain ⟨v10, rfl, hh⟩ := sr_I_e hq
  show Sat X 308 [.ref 9999, .ref p1, .ref p2, .int x3] [.int v10, .int v5] h8
  refine ow_icmp_eq (tgt := 1373) C dL_law_308 (by decide) hh (fun hh => ?_) (fun hh => ?_)
  · skip
    exact Sat.mask (bl_L_law_1373 C Z p1 p2 x3 h8 HX hh) (mk_y (mk_y (mk_y (mk_y mk_0))))
  · skip
    refine ow_iconst (v := 0) C dL_law_311 rfl ?_
    exact ow_iret Z dL_law_312 (Or.inl rfl) hh
def sm_L_law_227 (K18 : Nat → Nat → Int32 → aw_H → Prop) (len : Nat) (xs : Nat → Int32) (Q : aw_R) (p1 : Nat) (p2 : Nat) (x3 : Int32) (h : aw_H) : Prop :=
  sx_I len xs (x3 + 1) fun v1 => sx_I len xs (x3 + 2) fun v2 => sx_I len xs (x3 + 3) fun v3 => sx_I len xs (x3 + 4) fun v4 => sv_O h p1 5 (tr_X6_gate [.ref p1, .int v1, .int v2, .int v3, .int v4] h fun r6 h5 => sr_I r6 fun v7 => sx_I len xs (x3 + 1) fun v8 => sx_I len xs (x3 + 2) fun v9 => sx_I len xs (x3 + 3) fun v10 => sx_I len xs (x3 + 4) fun v11 => sv_O h5 p2 6 (tr_X7_gate [.ref p2, .int v8, .int v9, .int v10, .int v11] h5 fun r13 h12 => sr_I r13 fun v14 => if v7 = v14 then (sm_L_law_1373 K18 len xs Q p1 p2 x3 h12) else (Q (some (.int 0)) h12)))
set_option maxRecDepth 100000 in
set_option maxHeartbeats 4000000 in
theorem bl_L_law_227 {len : Nat} {xs : Nat → Int32} {X : aw_X} {Q : aw_R} (C : aw_C X cL_law RL 4 10) (Z : aw_Z X cL_law (some .boolean) Q) (p1 : Nat) (p2 : Nat) (x3 : Int32) (h : aw_H) (HX : aw_S X 9999 len xs) (hh : sm_L_law_227 (fun (p1 : Nat) (p2 : Nat) (x3 : Int32) (h : aw_H) => Sat X 18 [.ref 9999, .ref p1, .ref p2, .int x3] [] h) len xs Q p1 p2 x3 h) : Sat X 227 [.ref 9999, .ref p1, .ref p2, .int x3] [] h := by
  unfold sm_L_law_227 at hh
  refine ow_aload_n C dL_law_227 rfl rfl ?_
  refine ow_aload_n C dL_law_228 rfl rfl ?_
  refine ow_iload_n C dL_law_229 rfl rfl ?_
  refine ow_iconst (v := 1) C dL_law_230 rfl ?_
  refine ow_iadd C dL_law_231 ?_
  refine ow_sld C HX dL_law_232 hh (fun v1 hh => ?_)
  refine ow_aload_n C dL_law_233 rfl rfl ?_
  refine ow_iload_n C dL_law_234 rfl rfl ?_
  refine ow_iconst (v := 2) C dL_law_235 rfl ?_
  refine ow_iadd C dL_law_236 ?_
  refine ow_sld C HX dL_law_237 hh (fun v2 hh => ?_)
  refine ow_aload_n C dL_law_238 rfl rfl ?_
  refine ow_iload_n C dL_law_239 rfl rfl ?_
  refine ow_iconst (v := 3) C dL_law_240 rfl ?_
  refine ow_iadd C dL_law_241 ?_
  refine ow_sld C HX dL_law_242 hh (fun v3 hh => ?_)
  refine ow_aload_n C dL_law_243 rfl rfl ?_
  refine ow_iload_n C dL_law_244 rfl rfl ?_
  refine ow_iconst (v := 4) C dL_law_245 rfl ?_
  refine ow_iadd C dL_law_246 ?_
  refine ow_sld C HX dL_law_247 hh (fun v4 hh => ?_)
  refine ow_callV C (cv_X6_gate _) (Nat.le_of_ble_eq_true rfl) kw_924 dL_law_248 (as := [.int v1, .int v2, .int v3, .int v4]) (st := []) rfl rfl (Nat.le_of_ble_eq_true rfl) hh (fun r6 h5 hq => ?_)
  obtain ⟨v7, rfl, hh⟩ := sr_I_e hq
  show Sat X 251 [.ref 9999, .ref p1, .ref p2, .int x3] [.int v7] h5
  refine ow_aload_n C dL_law_251 rfl rfl ?_
  refine ow_aload_n C dL_law_252 rfl rfl ?_
  refine ow_iload_n C dL_law_253 rfl rfl ?_
  refine ow_iconst (v := 1) C dL_law_254 rfl ?_
  refine ow_iadd C dL_law_255 ?_
  refine ow_sld C HX dL_law_256 hh (fun v8 hh => ?_)
  refine ow_aload_n C dL_law_257 rfl rfl ?_
  refine ow_iload_n C dL_law_258 rfl rfl ?_
  refine ow_iconst (v := 2) C dL_law_259 rfl ?_
  refine ow_iadd C dL_law_260 ?_
  refine ow_sld C HX dL_law_261 hh (fun v9 hh => ?_)
  refine ow_aload_n C dL_law_262 rfl rfl ?_
  refine ow_iload_n C dL_law_263 rfl rfl ?_
  refine ow_iconst (v := 3) C dL_law_264 rfl ?_
  refine ow_iadd C dL_law_265 ?_
  refine ow_sld C HX dL_law_266 hh (fun v10 hh => ?_)
  refine ow_aload_n C dL_law_267 rfl rfl ?_
  refine ow_iload_n C dL_law_268 rfl rfl ?_
  refine ow_iconst (v := 4) C dL_law_269 rfl ?_
  refine ow_iadd C dL_law_270 ?_
  refine ow_sld C HX dL_law_271 hh (fun v11 hh => ?_)
  refine ow_callV C (cv_X7_gate _) (Nat.le_of_ble_eq_true rfl) kw_925 dL_law_272 (as := [.int v8, .int v9, .int v10, .int v11]) (st := [.int v7]) rfl rfl (Nat.le_of_ble_eq_true rfl) hh (fun r13 h12 hq => ?_)
  obtain ⟨v14, rfl, hh⟩ := sr_I_e hq
  show Sat X 275 [.ref 9999, .ref p1, .ref p2, .int x3] [.int v14, .int v7] h12
  refine ow_icmp_eq (tgt := 1373) C dL_law_275 (by decide) hh (fun hh => ?_) (fun hh => ?_)
  · skip
    exact Sat.mask (bl_L_law_1373 C Z p1 p2 x3 h12 HX hh) (mk_y (mk_y (mk_y (mk_y mk_0))))
  · skip
    refine ow_iconst (v := 0) C dL_law_278 rfl ?_
    exact ow_iret Z dL_law_279 (Or.inl rfl) hh
def sm_L_law_204 (K18 : Nat → Nat → Int32 → aw_H → Prop) (len : Nat) (xs : Nat → Int32) (Q : aw_R) (p1 : Nat) (p2 : Nat) (x3 : Int32) (h : aw_H) : Prop :=
  sx_I len xs (x3 + 1) fun v1 => sv_O h p1 5 (tr_X6_wires [.ref p1, .int v1] h fun r3 h2 => sr_I r3 fun v4 => sx_I len xs (x3 + 1) fun v5 => sv_O h2 p2 6 (tr_X7_wires [.ref p2, .int v5] h2 fun r7 h6 => sr_I r7 fun v8 => if v4 = v8 then (sm_L_law_1373 K18 len xs Q p1 p2 x3 h6) else (Q (some (.int 0)) h6)))
set_option maxRecDepth 100000 in
set_option maxHeartbeats 4000000 in
theorem bl_L_law_204 {len : Nat} {xs : Nat → Int32} {X : aw_X} {Q : aw_R} (C : aw_C X cL_law RL 4 10) (Z : aw_Z X cL_law (some .boolean) Q) (p1 : Nat) (p2 : Nat) (x3 : Int32) (h : aw_H) (HX : aw_S X 9999 len xs) (hh : sm_L_law_204 (fun (p1 : Nat) (p2 : Nat) (x3 : Int32) (h : aw_H) => Sat X 18 [.ref 9999, .ref p1, .ref p2, .int x3] [] h) len xs Q p1 p2 x3 h) : Sat X 204 [.ref 9999, .ref p1, .ref p2, .int x3] [] h := by
  unfold sm_L_law_204 at hh
  refine ow_aload_n C dL_law_204 rfl rfl ?_
  refine ow_aload_n C dL_law_205 rfl rfl ?_
  refine ow_iload_n C dL_law_206 rfl rfl ?_
  refine ow_iconst (v := 1) C dL_law_207 rfl ?_
  refine ow_iadd C dL_law_208 ?_
  refine ow_sld C HX dL_law_209 hh (fun v1 hh => ?_)
  refine ow_callV C (cv_X6_wires _) (Nat.le_of_ble_eq_true rfl) kw_926 dL_law_210 (as := [.int v1]) (st := []) rfl rfl (Nat.le_of_ble_eq_true rfl) hh (fun r3 h2 hq => ?_)
  obtain ⟨v4, rfl, hh⟩ := sr_I_e hq
  show Sat X 213 [.ref 9999, .ref p1, .ref p2, .int x3] [.int v4] h2
  refine ow_aload_n C dL_law_213 rfl rfl ?_
  refine ow_aload_n C dL_law_214 rfl rfl ?_
  refine ow_iload_n C dL_law_215 rfl rfl ?_
  refine ow_iconst (v := 1) C dL_law_216 rfl ?_
  refine ow_iadd C dL_law_217 ?_
  refine ow_sld C HX dL_law_218 hh (fun v5 hh => ?_)
  refine ow_callV C (cv_X7_wires _) (Nat.le_of_ble_eq_true rfl) kw_927 dL_law_219 (as := [.int v5]) (st := [.int v4]) rfl rfl (Nat.le_of_ble_eq_true rfl) hh (fun r7 h6 hq => ?_)
  obtain ⟨v8, rfl, hh⟩ := sr_I_e hq
  show Sat X 222 [.ref 9999, .ref p1, .ref p2, .int x3] [.int v8, .int v4] h6
  refine ow_icmp_eq (tgt := 1373) C dL_law_222 (by decide) hh (fun hh => ?_) (fun hh => ?_)
  · skip
    exact Sat.mask (bl_L_law_1373 C Z p1 p2 x3 h6 HX hh) (mk_y (mk_y (mk_y (mk_y mk_0))))
  · skip
    refine ow_iconst (v := 0) C dL_law_225 rfl ?_
    exact ow_iret Z dL_law_226 (Or.inl rfl) hh
def sm_L_law_18 (K18 : Nat → Nat → Int32 → aw_H → Prop) (len : Nat) (xs : Nat → Int32) (Q : aw_R) (p1 : Nat) (p2 : Nat) (x3 : Int32) (h : aw_H) : Prop :=
  sx_N len fun v1 => if (v1 - 7) < x3 then (Q (some (.int 1)) h) else (sx_I len xs x3 fun v2 => if (v2 &&& 63) = 0 then (sm_L_law_204 K18 len xs Q p1 p2 x3 h) else if (v2 &&& 63) = 1 then (sm_L_law_227 K18 len xs Q p1 p2 x3 h) else if (v2 &&& 63) = 2 then (sm_L_law_280 K18 len xs Q p1 p2 x3 h) else if (v2 &&& 63) = 3 then (sm_L_law_313 K18 len xs Q p1 p2 x3 h) else if (v2 &&& 63) = 4 then (sm_L_law_346 K18 len xs Q p1 p2 x3 h) else if (v2 &&& 63) = 5 then (sm_L_law_369 K18 len xs Q p1 p2 x3 h) else if (v2 &&& 63) = 6 then (sm_L_law_382 K18 len xs Q p1 p2 x3 h) else if (v2 &&& 63) = 7 then (sm_L_law_405 K18 len xs Q p1 p2 x3 h) else if (v2 &&& 63) = 8 then (sm_L_law_428 K18 len xs Q p1 p2 x3 h) else if (v2 &&& 63) = 9 then (sm_L_law_451 K18 len xs Q p1 p2 x3 h) else if (v2 &&& 63) = 10 then (sm_L_law_464 K18 len xs Q p1 p2 x3 h) else if (v2 &&& 63) = 11 then (sm_L_law_487 K18 len xs Q p1 p2 x3 h) else if (v2 &&& 63) = 12 then (sm_L_law_510 K18 len xs Q p1 p2 x3 h) else if (v2 &&& 63) = 13 then (sm_L_law_533 K18 len xs Q p1 p2 x3 h) else if (v2 &&& 63) = 14 then (sm_L_law_566 K18 len xs Q p1 p2 x3 h) else if (v2 &&& 63) = 15 then (sm_L_law_589 K18 len xs Q p1 p2 x3 h) else if (v2 &&& 63) = 16 then (sm_L_law_602 K18 len xs Q p1 p2 x3 h) else if (v2 &&& 63) = 17 then (sm_L_law_625 K18 len xs Q p1 p2 x3 h) else if (v2 &&& 63) = 18 then (sm_L_law_658 K18 len xs Q p1 p2 x3 h) else if (v2 &&& 63) = 19 then (sm_L_law_691 K18 len xs Q p1 p2 x3 h) else if (v2 &&& 63) = 20 then (sm_L_law_714 K18 len xs Q p1 p2 x3 h) else if (v2 &&& 63) = 21 then (sm_L_law_737 K18 len xs Q p1 p2 x3 h) else if (v2 &&& 63) = 22 then (sm_L_law_750 K18 len xs Q p1 p2 x3 h) else if (v2 &&& 63) = 23 then (sm_L_law_763 K18 len xs Q p1 p2 x3 h) else if (v2 &&& 63) = 24 then (sm_L_law_796 K18 len xs Q p1 p2 x3 h) else if (v2 &&& 63) = 25 then (sm_L_law_809 K18 len xs Q p1 p2 x3 h) else if (v2 &&& 63) = 26 then (sm_L_law_842 K18 len xs Q p1 p2 x3 h) else if (v2 &&& 63) = 27 then (sm_L_law_885 K18 len xs Q p1 p2 x3 h) else if (v2 &&& 63) = 28 then (sm_L_law_908 K18 len xs Q p1 p2 x3 h) else if (v2 &&& 63) = 29 then (sm_L_law_931 K18 len xs Q p1 p2 x3 h) else if (v2 &&& 63) = 30 then (sm_L_law_954 K18 len xs Q p1 p2 x3 h) else if (v2 &&& 63) = 31 then (sm_L_law_997 K18 len xs Q p1 p2 x3 h) else if (v2 &&& 63) = 32 then (sm_L_law_1010 K18 len xs Q p1 p2 x3 h) else if (v2 &&& 63) = 33 then (sm_L_law_1023 K18 len xs Q p1 p2 x3 h) else if (v2 &&& 63) = 34 then (sm_L_law_1098 K18 len xs Q p1 p2 x3 h) else if (v2 &&& 63) = 35 then (sm_L_law_1161 K18 len xs Q p1 p2 x3 h) else if (v2 &&& 63) = 36 then (sm_L_law_1204 K18 len xs Q p1 p2 x3 h) else if (v2 &&& 63) = 37 then (sm_L_law_1227 K18 len xs Q p1 p2 x3 h) else if (v2 &&& 63) = 38 then (sm_L_law_1310 K18 len xs Q p1 p2 x3 h) else (sm_L_law_1373 K18 len xs Q p1 p2 x3 h))
set_option maxRecDepth 100000 in
set_option maxHeartbeats 4000000 in
theorem bl_L_law_18 {len : Nat} {xs : Nat → Int32} {X : aw_X} {Q : aw_R} (C : aw_C X cL_law RL 4 10) (Z : aw_Z X cL_law (some .boolean) Q) (p1 : Nat) (p2 : Nat) (x3 : Int32) (h : aw_H) (HX : aw_S X 9999 len xs) (hh : sm_L_law_18 (fun (p1 : Nat) (p2 : Nat) (x3 : Int32) (h : aw_H) => Sat X 18 [.ref 9999, .ref p1, .ref p2, .int x3] [] h) len xs Q p1 p2 x3 h) : Sat X 18 [.ref 9999, .ref p1, .ref p2, .int x3] [] h := by
  unfold sm_L_law_18 at hh
  refine ow_iload_n C dL_law_18 rfl rfl ?_
  refine ow_aload_n C dL_law_19 rfl rfl ?_
  refine ow_slen C HX dL_law_20 hh (fun v1 hh => ?_)
  refine ow_bipush (v := 7) C dL_law_21 rfl ?_
  refine ow_isub C dL_law_23 ?_
  refine ow_icmp_gt (tgt := 1379) C dL_law_24 (by decide) hh (fun hh => ?_) (fun hh => ?_)
  · skip
    refine ow_iconst (v := 1) C dL_law_1379 rfl ?_
    exact ow_iret Z dL_law_1380 (Or.inr rfl) hh
  · skip
    refine ow_aload_n C dL_law_27 rfl rfl ?_
    refine ow_iload_n C dL_law_28 rfl rfl ?_
    refine ow_sld C HX dL_law_29 hh (fun v2 hh => ?_)
    refine ow_bipush (v := 63) C dL_law_30 rfl ?_
    refine ow_iand C dL_law_32 ?_
    rcases if_e hh with ⟨hc0, hh⟩ | ⟨hc0, hh⟩
    · refine ow_tableIn (tgt := 204) (v := 0) C dL_law_33 hc0 (by decide) (by decide) rfl (by decide) ?_
      exact Sat.mask (bl_L_law_204 C Z p1 p2 x3 h HX hh) (mk_y (mk_y (mk_y (mk_y mk_0))))
    rcases if_e hh with ⟨hc1, hh⟩ | ⟨hc1, hh⟩
    · refine ow_tableIn (tgt := 227) (v := 1) C dL_law_33 hc1 (by decide) (by decide) rfl (by decide) ?_
      exact Sat.mask (bl_L_law_227 C Z p1 p2 x3 h HX hh) (mk_y (mk_y (mk_y (mk_y mk_0))))
    rcases if_e hh with ⟨hc2, hh⟩ | ⟨hc2, hh⟩
    · refine ow_tableIn (tgt := 280) (v := 2) C dL_law_33 hc2 (by decide) (by decide) rfl (by decide) ?_
      exact Sat.mask (bl_L_law_280 C Z p1 p2 x3 h HX hh) (mk_y (mk_y (mk_y (mk_y mk_0))))
    rcases if_e hh with ⟨hc3, hh⟩ | ⟨hc3, hh⟩
    · refine ow_tableIn (tgt := 313) (v := 3) C dL_law_33 hc3 (by decide) (by decide) rfl (by decide) ?_
      exact Sat.mask (bl_L_law_313 C Z p1 p2 x3 h HX hh) (mk_y (mk_y (mk_y (mk_y mk_0))))
    rcases if_e hh with ⟨hc4, hh⟩ | ⟨hc4, hh⟩
    · refine ow_tableIn (tgt := 346) (v := 4) C dL_law_33 hc4 (by decide) (by decide) rfl (by decide) ?_
      exact Sat.mask (bl_L_law_346 C Z p1 p2 x3 h HX hh) (mk_y (mk_y (mk_y (mk_y mk_0))))
    rcases if_e hh with ⟨hc5, hh⟩ | ⟨hc5, hh⟩
    · refine ow_tableIn (tgt := 369) (v := 5) C dL_law_33 hc5 (by decide) (by decide) rfl (by decide) ?_
      exact Sat.mask (bl_L_law_369 C Z p1 p2 x3 h HX hh) (mk_y (mk_y (mk_y (mk_y mk_0))))
    rcases if_e hh with ⟨hc6, hh⟩ | ⟨hc6, hh⟩
    · refine ow_tableIn (tgt := 382) (v := 6) C dL_law_33 hc6 (by decide) (by decide) rfl (by decide) ?_
      exact Sat.mask (bl_L_law_382 C Z p1 p2 x3 h HX hh) (mk_y (mk_y (mk_y (mk_y mk_0))))
    rcases if_e hh with ⟨hc7, hh⟩ | ⟨hc7, hh⟩
    · refine ow_tableIn (tgt := 405) (v := 7) C dL_law_33 hc7 (by decide) (by decide) rfl (by decide) ?_
      exact Sat.mask (bl_L_law_405 C Z p1 p2 x3 h HX hh) (mk_y (mk_y (mk_y (mk_y mk_0))))
    rcases if_e hh with ⟨hc8, hh⟩ | ⟨hc8, hh⟩
    · refine ow_tableIn (tgt := 428) (v := 8) C dL_law_33 hc8 (by decide) (by decide) rfl (by decide) ?_
      exact Sat.mask (bl_L_law_428 C Z p1 p2 x3 h HX hh) (mk_y (mk_y (mk_y (mk_y mk_0))))
    rcases if_e hh with ⟨hc9, hh⟩ | ⟨hc9, hh⟩
    · refine ow_tableIn (tgt := 451) (v := 9) C dL_law_33 hc9 (by decide) (by decide) rfl (by decide) ?_
      exact Sat.mask (bl_L_law_451 C Z p1 p2 x3 h HX hh) (mk_y (mk_y (mk_y (mk_y mk_0))))
    rcases if_e hh with ⟨hc10, hh⟩ | ⟨hc10, hh⟩
    · refine ow_tableIn (tgt := 464) (v := 10) C dL_law_33 hc10 (by decide) (by decide) rfl (by decide) ?_
      exact Sat.mask (bl_L_law_464 C Z p1 p2 x3 h HX hh) (mk_y (mk_y (mk_y (mk_y mk_0))))
    rcases if_e hh with ⟨hc11, hh⟩ | ⟨hc11, hh⟩
    · refine ow_tableIn (tgt := 487) (v := 11) C dL_law_33 hc11 (by decide) (by decide) rfl (by decide) ?_
      exact Sat.mask (bl_L_law_487 C Z p1 p2 x3 h HX hh) (mk_y (mk_y (mk_y (mk_y mk_0))))
    rcases if_e hh with ⟨hc12, hh⟩ | ⟨hc12, hh⟩
    · refine ow_tableIn (tgt := 510) (v := 12) C dL_law_33 hc12 (by decide) (by decide) rfl (by decide) ?_
      exact Sat.mask (bl_L_law_510 C Z p1 p2 x3 h HX hh) (mk_y (mk_y (mk_y (mk_y mk_0))))
    rcases if_e hh with ⟨hc13, hh⟩ | ⟨hc13, hh⟩
    · refine ow_tableIn (tgt := 533) (v := 13) C dL_law_33 hc13 (by decide) (by decide) rfl (by decide) ?_
      exact Sat.mask (bl_L_law_533 C Z p1 p2 x3 h HX hh) (mk_y (mk_y (mk_y (mk_y mk_0))))
    rcases if_e hh with ⟨hc14, hh⟩ | ⟨hc14, hh⟩
    · refine ow_tableIn (tgt := 566) (v := 14) C dL_law_33 hc14 (by decide) (by decide) rfl (by decide) ?_
      exact Sat.mask (bl_L_law_566 C Z p1 p2 x3 h HX hh) (mk_y (mk_y (mk_y (mk_y mk_0))))
    rcases if_e hh with ⟨hc15, hh⟩ | ⟨hc15, hh⟩
    · refine ow_tableIn (tgt := 589) (v := 15) C dL_law_33 hc15 (by decide) (by decide) rfl (by decide) ?_
      exact Sat.mask (bl_L_law_589 C Z p1 p2 x3 h HX hh) (mk_y (mk_y (mk_y (mk_y mk_0))))
    rcases if_e hh with ⟨hc16, hh⟩ | ⟨hc16, hh⟩
    · refine ow_tableIn (tgt := 602) (v := 16) C dL_law_33 hc16 (by decide) (by decide) rfl (by decide) ?_
      exact Sat.mask (bl_L_law_602 C Z p1 p2 x3 h HX hh) (mk_y (mk_y (mk_y (mk_y mk_0))))
    rcases if_e hh with ⟨hc17, hh⟩ | ⟨hc17, hh⟩
    · refine ow_tableIn (tgt := 625) (v := 17) C dL_law_33 hc17 (by decide) (by decide) rfl (by decide) ?_
      exact Sat.mask (bl_L_law_625 C Z p1 p2 x3 h HX hh) (mk_y (mk_y (mk_y (mk_y mk_0))))
    rcases if_e hh with ⟨hc18, hh⟩ | ⟨hc18, hh⟩
    · refine ow_tableIn (tgt := 658) (v := 18) C dL_law_33 hc18 (by decide) (by decide) rfl (by decide) ?_
      exact Sat.mask (bl_L_law_658 C Z p1 p2 x3 h HX hh) (mk_y (mk_y (mk_y (mk_y mk_0))))
    rcases if_e hh with ⟨hc19, hh⟩ | ⟨hc19, hh⟩
    · refine ow_tableIn (tgt := 691) (v := 19) C dL_law_33 hc19 (by decide) (by decide) rfl (by decide) ?_
      exact Sat.mask (bl_L_law_691 C Z p1 p2 x3 h HX hh) (mk_y (mk_y (mk_y (mk_y mk_0))))
    rcases if_e hh with ⟨hc20, hh⟩ | ⟨hc20, hh⟩
    · refine ow_tableIn (tgt := 714) (v := 20) C dL_law_33 hc20 (by decide) (by decide) rfl (by decide) ?_
      exact Sat.mask (bl_L_law_714 C Z p1 p2 x3 h HX hh) (mk_y (mk_y (mk_y (mk_y mk_0))))
    rcases if_e hh with ⟨hc21, hh⟩ | ⟨hc21, hh⟩
    · refine ow_tableIn (tgt := 737) (v := 21) C dL_law_33 hc21 (by decide) (by decide) rfl (by decide) ?_
      exact Sat.mask (bl_L_law_737 C Z p1 p2 x3 h HX hh) (mk_y (mk_y (mk_y (mk_y mk_0))))
    rcases if_e hh with ⟨hc22, hh⟩ | ⟨hc22, hh⟩
    · refine ow_tableIn (tgt := 750) (v := 22) C dL_law_33 hc22 (by decide) (by decide) rfl (by decide) ?_
      exact Sat.mask (bl_L_law_750 C Z p1 p2 x3 h HX hh) (mk_y (mk_y (mk_y (mk_y mk_0))))
    rcases if_e hh with ⟨hc23, hh⟩ | ⟨hc23, hh⟩
    · refine ow_tableIn (tgt := 763) (v := 23) C dL_law_33 hc23 (by decide) (by decide) rfl (by decide) ?_
      exact Sat.mask (bl_L_law_763 C Z p1 p2 x3 h HX hh) (mk_y (mk_y (mk_y (mk_y mk_0))))
    rcases if_e hh with ⟨hc24, hh⟩ | ⟨hc24, hh⟩
    · refine ow_tableIn (tgt := 796) (v := 24) C dL_law_33 hc24 (by decide) (by decide) rfl (by decide) ?_
      exact Sat.mask (bl_L_law_796 C Z p1 p2 x3 h HX hh) (mk_y (mk_y (mk_y (mk_y mk_0))))
    rcases if_e hh with ⟨hc25, hh⟩ | ⟨hc25, hh⟩
    · refine ow_tableIn (tgt := 809) (v := 25) C dL_law_33 hc25 (by decide) (by decide) rfl (by decide) ?_
      exact Sat.mask (bl_L_law_809 C Z p1 p2 x3 h HX hh) (mk_y (mk_y (mk_y (mk_y mk_0))))
    rcases if_e hh with ⟨hc26, hh⟩ | ⟨hc26, hh⟩
    · refine ow_tableIn (tgt := 842) (v := 26) C dL_law_33 hc26 (by decide) (by decide) rfl (by decide) ?_
      exact Sat.mask (bl_L_law_842 C Z p1 p2 x3 h HX hh) (mk_y (mk_y (mk_y (mk_y mk_0))))
    rcases if_e hh with ⟨hc27, hh⟩ | ⟨hc27, hh⟩
    · refine ow_tableIn (tgt := 885) (v := 27) C dL_law_33 hc27 (by decide) (by decide) rfl (by decide) ?_
      exact Sat.mask (bl_L_law_885 C Z p1 p2 x3 h HX hh) (mk_y (mk_y (mk_y (mk_y mk_0))))
    rcases if_e hh with ⟨hc28, hh⟩ | ⟨hc28, hh⟩
    · refine ow_tableIn (tgt := 908) (v := 28) C dL_law_33 hc28 (by decide) (by decide) rfl (by decide) ?_
      exact Sat.mask (bl_L_law_908 C Z p1 p2 x3 h HX hh) (mk_y (mk_y (mk_y (mk_y mk_0))))
    rcases if_e hh with ⟨hc29, hh⟩ | ⟨hc29, hh⟩
    · refine ow_tableIn (tgt := 931) (v := 29) C dL_law_33 hc29 (by decide) (by decide) rfl (by decide) ?_
      exact Sat.mask (bl_L_law_931 C Z p1 p2 x3 h HX hh) (mk_y (mk_y (mk_y (mk_y mk_0))))
    rcases if_e hh with ⟨hc30, hh⟩ | ⟨hc30, hh⟩
    · refine ow_tableIn (tgt := 954) (v := 30) C dL_law_33 hc30 (by decide) (by decide) rfl (by decide) ?_
      exact Sat.mask (bl_L_law_954 C Z p1 p2 x3 h HX hh) (mk_y (mk_y (mk_y (mk_y mk_0))))
    rcases if_e hh with ⟨hc31, hh⟩ | ⟨hc31, hh⟩
    · refine ow_tableIn (tgt := 997) (v := 31) C dL_law_33 hc31 (by decide) (by decide) rfl (by decide) ?_
      exact Sat.mask (bl_L_law_997 C Z p1 p2 x3 h HX hh) (mk_y (mk_y (mk_y (mk_y mk_0))))
    rcases if_e hh with ⟨hc32, hh⟩ | ⟨hc32, hh⟩
    · refine ow_tableIn (tgt := 1010) (v := 32) C dL_law_33 hc32 (by decide) (by decide) rfl (by decide) ?_
      exact Sat.mask (bl_L_law_1010 C Z p1 p2 x3 h HX hh) (mk_y (mk_y (mk_y (mk_y mk_0))))
    rcases if_e hh with ⟨hc33, hh⟩ | ⟨hc33, hh⟩
    · refine ow_tableIn (tgt := 1023) (v := 33) C dL_law_33 hc33 (by decide) (by decide) rfl (by decide) ?_
      exact Sat.mask (bl_L_law_1023 C Z p1 p2 x3 h HX hh) (mk_y (mk_y (mk_y (mk_y mk_0))))
    rcases if_e hh with ⟨hc34, hh⟩ | ⟨hc34, hh⟩
    · refine ow_tableIn (tgt := 1098) (v := 34) C dL_law_33 hc34 (by decide) (by decide) rfl (by decide) ?_
      exact Sat.mask (bl_L_law_1098 C Z p1 p2 x3 h HX hh) (mk_y (mk_y (mk_y (mk_y mk_0))))
    rcases if_e hh with ⟨hc35, hh⟩ | ⟨hc35, hh⟩
    · refine ow_tableIn (tgt := 1161) (v := 35) C dL_law_33 hc35 (by decide) (by decide) rfl (by decide) ?_
      exact Sat.mask (bl_L_law_1161 C Z p1 p2 x3 h HX hh) (mk_y (mk_y (mk_y (mk_y mk_0))))
    rcases if_e hh with ⟨hc36, hh⟩ | ⟨hc36, hh⟩
    · refine ow_tableIn (tgt := 1204) (v := 36) C dL_law_33 hc36 (by decide) (by decide) rfl (by decide) ?_
      exact Sat.mask (bl_L_law_1204 C Z p1 p2 x3 h HX hh) (mk_y (mk_y (mk_y (mk_y mk_0))))
    rcases if_e hh with ⟨hc37, hh⟩ | ⟨hc37, hh⟩
    · refine ow_tableIn (tgt := 1227) (v := 37) C dL_law_33 hc37 (by decide) (by decide) rfl (by decide) ?_
      exact Sat.mask (bl_L_law_1227 C Z p1 p2 x3 h HX hh) (mk_y (mk_y (mk_y (mk_y mk_0))))
    rcases if_e hh with ⟨hc38, hh⟩ | ⟨hc38, hh⟩
    · refine ow_tableIn (tgt := 1310) (v := 38) C dL_law_33 hc38 (by decide) (by decide) rfl (by decide) ?_
      exact Sat.mask (bl_L_law_1310 C Z p1 p2 x3 h HX hh) (mk_y (mk_y (mk_y (mk_y mk_0))))
    refine ow_tableOut (tgt := 1373) C dL_law_33 (by have := lv_neT hc0 (a := 0) rfl; have := lv_neT hc1 (a := 1) rfl; have := lv_neT hc2 (a := 2) rfl; have := lv_neT hc3 (a := 3) rfl; have := lv_neT hc4 (a := 4) rfl; have := lv_neT hc5 (a := 5) rfl; have := lv_neT hc6 (a := 6) rfl; have := lv_neT hc7 (a := 7) rfl; have := lv_neT hc8 (a := 8) rfl; have := lv_neT hc9 (a := 9) rfl; have := lv_neT hc10 (a := 10) rfl; have := lv_neT hc11 (a := 11) rfl; have := lv_neT hc12 (a := 12) rfl; have := lv_neT hc13 (a := 13) rfl; have := lv_neT hc14 (a := 14) rfl; have := lv_neT hc15 (a := 15) rfl; have := lv_neT hc16 (a := 16) rfl; have := lv_neT hc17 (a := 17) rfl; have := lv_neT hc18 (a := 18) rfl; have := lv_neT hc19 (a := 19) rfl; have := lv_neT hc20 (a := 20) rfl; have := lv_neT hc21 (a := 21) rfl; have := lv_neT hc22 (a := 22) rfl; have := lv_neT hc23 (a := 23) rfl; have := lv_neT hc24 (a := 24) rfl; have := lv_neT hc25 (a := 25) rfl; have := lv_neT hc26 (a := 26) rfl; have := lv_neT hc27 (a := 27) rfl; have := lv_neT hc28 (a := 28) rfl; have := lv_neT hc29 (a := 29) rfl; have := lv_neT hc30 (a := 30) rfl; have := lv_neT hc31 (a := 31) rfl; have := lv_neT hc32 (a := 32) rfl; have := lv_neT hc33 (a := 33) rfl; have := lv_neT hc34 (a := 34) rfl; have := lv_neT hc35 (a := 35) rfl; have := lv_neT hc36 (a := 36) rfl; have := lv_neT hc37 (a := 37) rfl; have := lv_neT hc38 (a := 38) rfl; omega) (by decide) ?_
    exact Sat.mask (bl_L_law_1373 C Z p1 p2 x3 h HX hh) (mk_y (mk_y (mk_y (mk_y mk_0))))
