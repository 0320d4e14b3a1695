/-! THE LAW: every operation on both sides, by program (wip/whole/lawgen.py) -/
theorem zo_prime {g : zG} {A : zMu} {v1 : Int} (hw : zWF A) (h1 : zR v1) : zOp g zm_X10_prime zm_X11_prime [.int (zJ v1)] A (st_prime A v1) :=
  zop_of (wf_prime hw v1) (fun μ φ hR h => cx_prime hw hR h1 h.c) (fun μ φ hM h => mx_prime hw hM h1 h.m)
theorem zl_L_13 : Cond.methodLink "LevelEquationsLaw" 13 yX10_prime ∈ ztbl := zmem_2 92 (by decide +kernel) rfl
theorem zl_L_17 : Cond.methodLink "LevelEquationsLaw" 17 yX11_prime ∈ ztbl := zmem_5 158 (by decide +kernel) rfl
theorem zo_j {g : zG} {A : zMu} {v1 v2 : Int} (hw : zWF A) (h1 : zR v1) (h2 : zR v2) : zOp g zm_X10_j zm_X11_j [.int (zJ v1), .int (zJ v2)] A (st_j A v1 v2) :=
  zop_of (wf_j hw v1 v2) (fun μ φ hR h => cx_j hw hR h1 h2 h.c) (fun μ φ hM h => mx_j hw hM h1 h2 h.m)
theorem zl_L_18 : Cond.methodLink "LevelEquationsLaw" 18 yX10_j ∈ ztbl := zmem_2 107 (by decide +kernel) rfl
theorem zl_L_22 : Cond.methodLink "LevelEquationsLaw" 22 yX11_j ∈ ztbl := zmem_5 170 (by decide +kernel) rfl
theorem zo_tell {g : zG} {A : zMu} {v1 v2 v3 : Int} (hw : zWF A) (h1 : zR v1) (h2 : zR v2) (h3 : zR v3) : zOp g zm_X10_tell zm_X11_tell [.int (zJ v1), .int (zJ v2), .int (zJ v3)] A (st_tell A v1 v2 v3) :=
  zop_of (wf_tell hw v1 v2 v3) (fun μ φ hR h => cx_tell hw hR h1 h2 h3 h.c) (fun μ φ hM h => mx_tell hw hM h1 h2 h3 h.m)
theorem zl_L_23 : Cond.methodLink "LevelEquationsLaw" 23 yX10_tell ∈ ztbl := zmem_2 143 (by decide +kernel) rfl
theorem zl_L_27 : Cond.methodLink "LevelEquationsLaw" 27 yX11_tell ∈ ztbl := zmem_6 221 (by decide +kernel) rfl
theorem zo_sum {g : zG} {A : zMu} {v1 v2 v3 : Int} (hw : zWF A) (h1 : zR v1) (h2 : zR v2) (h3 : zR v3) : zOp g zm_X10_sum zm_X11_sum [.int (zJ v1), .int (zJ v2), .int (zJ v3)] A (st_sum A v1 v2 v3) :=
  zop_of (wf_sum hw v1 v2 v3) (fun μ φ hR h => cx_sum hw hR h1 h2 h3 h.c) (fun μ φ hM h => mx_sum hw hM h1 h2 h3 h.m)
theorem zl_L_28 : Cond.methodLink "LevelEquationsLaw" 28 yX10_sum ∈ ztbl := zmem_2 160 (by decide +kernel) rfl
theorem zl_L_31 : Cond.methodLink "LevelEquationsLaw" 31 yX11_sum ∈ ztbl := zmem_5 202 (by decide +kernel) rfl
theorem zo_times {g : zG} {A : zMu} {v1 v2 v3 : Int} (hw : zWF A) (h1 : zR v1) (h2 : zR v2) (h3 : zR v3) : zOp g zm_X10_times zm_X11_times [.int (zJ v1), .int (zJ v2), .int (zJ v3)] A (st_times A v1 v2 v3) :=
  zop_of (wf_times hw v1 v2 v3) (fun μ φ hR h => cx_times hw hR h1 h2 h3 h.c) (fun μ φ hM h => mx_times hw hM h1 h2 h3 h.m)
theorem zl_L_32 : Cond.methodLink "LevelEquationsLaw" 32 yX10_times ∈ ztbl := zmem_2 183 (by decide +kernel) rfl
theorem zl_L_35 : Cond.methodLink "LevelEquationsLaw" 35 yX11_times ∈ ztbl := zmem_5 215 (by decide +kernel) rfl
theorem zo_stretch {g : zG} {A : zMu} {v1 v2 v3 : Int} (hw : zWF A) (h1 : zR v1) (h2 : zR v2) (h3 : zR v3) : zOp g zm_X10_stretch zm_X11_stretch [.int (zJ v1), .int (zJ v2), .int (zJ v3)] A (st_stretch A v1 v2 v3) :=
  zop_of (wf_stretch hw v1 v2 v3) (fun μ φ hR h => cx_stretch hw hR h1 h2 h3 h.c) (fun μ φ hM h => mx_stretch hw hM h1 h2 h3 h.m)
theorem zl_L_36 : Cond.methodLink "LevelEquationsLaw" 36 yX10_stretch ∈ ztbl := zmem_2 191 (by decide +kernel) rfl
theorem zl_L_39 : Cond.methodLink "LevelEquationsLaw" 39 yX11_stretch ∈ ztbl := zmem_5 224 (by decide +kernel) rfl
theorem zo_over {g : zG} {A : zMu} {v1 v2 : Int} (hw : zWF A) (h1 : zR v1) (h2 : zR v2) : zOp g zm_X10_over zm_X11_over [.int (zJ v1), .int (zJ v2)] A (st_over A v1 v2) :=
  zop_of (wf_over hw v1 v2) (fun μ φ hR h => cx_over hw hR h1 h2 h.c) (fun μ φ hM h => mx_over hw hM h1 h2 h.m)
theorem zl_L_40 : Cond.methodLink "LevelEquationsLaw" 40 yX10_over ∈ ztbl := zmem_2 199 (by decide +kernel) rfl
theorem zl_L_43 : Cond.methodLink "LevelEquationsLaw" 43 yX11_over ∈ ztbl := zmem_5 229 (by decide +kernel) rfl
theorem zo_power {g : zG} {A : zMu} {v1 v2 v3 : Int} (hw : zWF A) (h1 : zR v1) (h2 : zR v2) (h3 : zR v3) : zOp g zm_X10_power zm_X11_power [.int (zJ v1), .int (zJ v2), .int (zJ v3)] A (st_power A v1 v2 v3) :=
  zop_of (wf_power hw v1 v2 v3) (fun μ φ hR h => cx_power hw hR h1 h2 h3 h.c) (fun μ φ hM h => mx_power hw hM h1 h2 h3 h.m)
theorem zl_L_44 : Cond.methodLink "LevelEquationsLaw" 44 yX10_power ∈ ztbl := zmem_2 207 (by decide +kernel) rfl
theorem zl_L_47 : Cond.methodLink "LevelEquationsLaw" 47 yX11_power ∈ ztbl := zmem_5 233 (by decide +kernel) rfl
theorem zo_of {g : zG} {A : zMu} {v1 v2 : Int} (hw : zWF A) (h1 : zR v1) (h2 : zR v2) : zOp g zm_X10_of zm_X11_of [.int (zJ v1), .int (zJ v2)] A (rd_of A v1 v2, A) :=
  zop_of (hw) (fun μ φ hR h => cx_of hw hR h1 h2 h.c) (fun μ φ hM h => mx_of hw hM h1 h2 h.m)
theorem zl_L_48 : Cond.methodLink "LevelEquationsLaw" 48 yX10_of ∈ ztbl := zmem_2 216 (by decide +kernel) rfl
theorem zl_L_51 : Cond.methodLink "LevelEquationsLaw" 51 yX11_of ∈ ztbl := zmem_6 1 (by decide +kernel) rfl
theorem zo_coefficient {g : zG} {A : zMu} {v1 v2 : Int} (hw : zWF A) (h1 : zR v1) (h2 : zR v2) : zOp g zm_X10_coefficient zm_X11_coefficient [.int (zJ v1), .int (zJ v2)] A (rd_co A v1 v2, A) :=
  zop_of (hw) (fun μ φ hR h => cx_coefficient hw hR h1 h2 h.c) (fun μ φ hM h => mx_coefficient hw hM h1 h2 h.m)
theorem zl_L_52 : Cond.methodLink "LevelEquationsLaw" 52 yX10_coefficient ∈ ztbl := zmem_2 224 (by decide +kernel) rfl
theorem zl_L_55 : Cond.methodLink "LevelEquationsLaw" 55 yX11_coefficient ∈ ztbl := zmem_6 6 (by decide +kernel) rfl
theorem zo_find {g : zG} {A : zMu} {v1 v2 v3 v4 : Int} (hw : zWF A) (h1 : zR v1) (h2 : zR v2) (h3 : zR v3) (h4 : zR v4) : zOp g zm_X10_find zm_X11_find [.int (zJ v1), .int (zJ v2), .int (zJ v3), .int (zJ v4)] A (st_find A v1 v2 v3 v4) :=
  zop_of (wf_find hw v1 v2 v3 v4) (fun μ φ hR h => cx_find hw hR h1 h2 h3 h4 h.c) (fun μ φ hM h => mx_find hw hM h1 h2 h3 h4 h.m)
theorem zl_L_56 : Cond.methodLink "LevelEquationsLaw" 56 yX10_find ∈ ztbl := zmem_2 230 (by decide +kernel) rfl
theorem zl_L_60 : Cond.methodLink "LevelEquationsLaw" 60 yX11_find ∈ ztbl := zmem_6 10 (by decide +kernel) rfl
theorem zo_equation {g : zG} {A : zMu} {v1 : Int} (hw : zWF A) (h1 : zR v1) : zOp g zm_X10_equation zm_X11_equation [.int (zJ v1)] A (rd_eq A v1, A) :=
  zop_of (hw) (fun μ φ hR h => cx_equation hw hR h1 h.c) (fun μ φ hM h => mx_equation hw hM h1 h.m)
theorem zl_L_61 : Cond.methodLink "LevelEquationsLaw" 61 yX10_equation ∈ ztbl := zmem_3 61 (by decide +kernel) rfl
theorem zl_L_64 : Cond.methodLink "LevelEquationsLaw" 64 yX11_equation ∈ ztbl := zmem_6 46 (by decide +kernel) rfl
theorem zo_term {g : zG} {A : zMu} {v1 v2 : Int} (hw : zWF A) (h1 : zR v1) (h2 : zR v2) : zOp g zm_X10_term zm_X11_term [.int (zJ v1), .int (zJ v2)] A (rd_term A v1 v2, A) :=
  zop_of (hw) (fun μ φ hR h => cx_term hw hR h1 h2 h.c) (fun μ φ hM h => mx_term hw hM h1 h2 h.m)
theorem zl_L_65 : Cond.methodLink "LevelEquationsLaw" 65 yX10_term ∈ ztbl := zmem_3 81 (by decide +kernel) rfl
theorem zl_L_68 : Cond.methodLink "LevelEquationsLaw" 68 yX11_term ∈ ztbl := zmem_6 55 (by decide +kernel) rfl
theorem zo_at {g : zG} {A : zMu} {v1 v2 : Int} (hw : zWF A) (h1 : zR v1) (h2 : zR v2) : zOp g zm_X10_at zm_X11_at [.int (zJ v1), .int (zJ v2)] A (rd_at A v1 v2, A) :=
  zop_of (hw) (fun μ φ hR h => cx_at hw hR h1 h2 h.c) (fun μ φ hM h => mx_at hw hM h1 h2 h.m)
theorem zl_L_69 : Cond.methodLink "LevelEquationsLaw" 69 yX10_at ∈ ztbl := zmem_3 89 (by decide +kernel) rfl
theorem zl_L_72 : Cond.methodLink "LevelEquationsLaw" 72 yX11_at ∈ ztbl := zmem_6 59 (by decide +kernel) rfl
theorem zo_vanishes {g : zG} {A : zMu} {v1 v2 : Int} (hw : zWF A) (h1 : zR v1) (h2 : zR v2) : zOp g zm_X10_vanishes zm_X11_vanishes [.int (zJ v1), .int (zJ v2)] A (rd_van A v1 v2, A) :=
  zop_of (hw) (fun μ φ hR h => cx_vanishes hw hR h1 h2 h.c) (fun μ φ hM h => mx_vanishes hw hM h1 h2 h.m)
theorem zl_L_73 : Cond.methodLink "LevelEquationsLaw" 73 yX10_vanishes ∈ ztbl := zmem_3 101 (by decide +kernel) rfl
theorem zl_L_76 : Cond.methodLink "LevelEquationsLaw" 76 yX11_vanishes ∈ ztbl := zmem_6 75 (by decide +kernel) rfl
theorem zo_neighbour {g : zG} {A : zMu} {v1 v2 : Int} (hw : zWF A) (h1 : zR v1) (h2 : zR v2) : zOp g zm_X10_neighbour zm_X11_neighbour [.int (zJ v1), .int (zJ v2)] A (rd_nb A v1 v2, A) :=
  zop_of (hw) (fun μ φ hR h => cx_neighbour hw hR h1 h2 h.c) (fun μ φ hM h => mx_neighbour hw hM h1 h2 h.m)
theorem zl_L_77 : Cond.methodLink "LevelEquationsLaw" 77 yX10_neighbour ∈ ztbl := zmem_3 114 (by decide +kernel) rfl
theorem zl_L_80 : Cond.methodLink "LevelEquationsLaw" 80 yX11_neighbour ∈ ztbl := zmem_6 79 (by decide +kernel) rfl
theorem zo_far {g : zG} {A : zMu} {v1 v2 : Int} (hw : zWF A) (h1 : zR v1) (h2 : zR v2) : zOp g zm_X10_far zm_X11_far [.int (zJ v1), .int (zJ v2)] A (rd_far A v1 v2, A) :=
  zop_of (hw) (fun μ φ hR h => cx_far hw hR h1 h2 h.c) (fun μ φ hM h => mx_far hw hM h1 h2 h.m)
theorem zl_L_81 : Cond.methodLink "LevelEquationsLaw" 81 yX10_far ∈ ztbl := zmem_3 157 (by decide +kernel) rfl
theorem zl_L_84 : Cond.methodLink "LevelEquationsLaw" 84 yX11_far ∈ ztbl := zmem_6 91 (by decide +kernel) rfl
theorem zo_reach {g : zG} {A : zMu} {v1 : Int} (hw : zWF A) (h1 : zR v1) : zOp g zm_X10_reach zm_X11_reach [.int (zJ v1)] A (rd_reach A v1, A) :=
  zop_of (hw) (fun μ φ hR h => cx_reach hw hR h1 h.c) (fun μ φ hM h => mx_reach hw hM h1 h.m)
theorem zl_L_85 : Cond.methodLink "LevelEquationsLaw" 85 yX10_reach ∈ ztbl := zmem_3 171 (by decide +kernel) rfl
theorem zl_L_88 : Cond.methodLink "LevelEquationsLaw" 88 yX11_reach ∈ ztbl := zmem_6 99 (by decide +kernel) rfl
theorem zo_values {g : zG} {A : zMu} {v1 : Int} (hw : zWF A) (h1 : zR v1) : zOp g zm_X10_values zm_X11_values [.int (zJ v1)] A (rd_values A v1, A) :=
  zop_of (hw) (fun μ φ hR h => cx_values hw hR h1 h.c) (fun μ φ hM h => mx_values hw hM h1 h.m)
theorem zl_L_89 : Cond.methodLink "LevelEquationsLaw" 89 yX10_values ∈ ztbl := zmem_3 175 (by decide +kernel) rfl
theorem zl_L_92 : Cond.methodLink "LevelEquationsLaw" 92 yX11_values ∈ ztbl := zmem_6 103 (by decide +kernel) rfl
theorem zo_keep {g : zG} {A : zMu} {v1 : Int} (hw : zWF A) (h1 : zR v1) : zOp g zm_X10_keep zm_X11_keep [.int (zJ v1)] A (st_keep A v1) :=
  zop_of (wf_keep hw v1) (fun μ φ hR h => cx_keep hw hR h1 h.c) (fun μ φ hM h => mx_keep hw hM h1 h.m)
theorem zl_L_93 : Cond.methodLink "LevelEquationsLaw" 93 yX10_keep ∈ ztbl := zmem_3 197 (by decide +kernel) rfl
theorem zl_L_96 : Cond.methodLink "LevelEquationsLaw" 96 yX11_keep ∈ ztbl := zmem_6 107 (by decide +kernel) rfl
theorem zo_drop {g : zG} {A : zMu} {v1 : Int} (hw : zWF A) (h1 : zR v1) : zOp g zm_X10_drop zm_X11_drop [.int (zJ v1)] A (st_drop A v1) :=
  zop_of (wf_drop hw v1) (fun μ φ hR h => cx_drop hw hR h1 h.c) (fun μ φ hM h => mx_drop hw hM h1 h.m)
theorem zl_L_97 : Cond.methodLink "LevelEquationsLaw" 97 yX10_drop ∈ ztbl := zmem_3 218 (by decide +kernel) rfl
theorem zl_L_100 : Cond.methodLink "LevelEquationsLaw" 100 yX11_drop ∈ ztbl := zmem_6 123 (by decide +kernel) rfl
theorem zo_joined {g : zG} {A : zMu} {v1 v2 : Int} (hw : zWF A) (h1 : zR v1) (h2 : zR v2) : zOpl g zm_X10_joined zm_X11_joined [.int (zJ v1), .int (zJ v2)] A (rd_joined A v1 v2, A) :=
  zopl_of (hw) (fun μ φ hR h => cx_joined hw hR h1 h2 h.c) (fun μ φ hM h => mx_joined hw hM h1 h2 h.m)
theorem zl_L_101 : Cond.methodLink "LevelEquationsLaw" 101 yX10_joined ∈ ztbl := zmem_3 222 (by decide +kernel) rfl
theorem zl_L_105 : Cond.methodLink "LevelEquationsLaw" 105 yX11_joined ∈ ztbl := zmem_6 132 (by decide +kernel) rfl
theorem zo_whole {g : zG} {A : zMu} (hw : zWF A) : zOpl g zm_X10_whole zm_X11_whole_ [] A (rd_whole A, A) :=
  zopl_of (hw) (fun μ φ hR h => cx_whole hw hR h.c) (fun μ φ hM h => mx_whole hw hM h.m)
theorem zl_L_106 : Cond.methodLink "LevelEquationsLaw" 106 yX10_whole ∈ ztbl := zmem_3 237 (by decide +kernel) rfl
theorem zl_L_110 : Cond.methodLink "LevelEquationsLaw" 110 yX11_whole_ ∈ ztbl := zmem_6 127 (by decide +kernel) rfl
theorem zo_feed {g : zG} {A : zMu} {v1 : Int} (hw : zWF A) (h1 : zR v1) : zOp g zm_X10_feed zm_X11_feed [.int (zJ v1)] A (st_feed A v1) :=
  zop_of (wf_feed hw v1) (fun μ φ hR h => cx_feed hw hR h1 h.c) (fun μ φ hM h => mx_feed hw hM h1 h.m)
theorem zl_L_111 : Cond.methodLink "LevelEquationsLaw" 111 yX10_feed ∈ ztbl := zmem_4 5 (by decide +kernel) rfl
theorem zl_L_114 : Cond.methodLink "LevelEquationsLaw" 114 yX11_feed ∈ ztbl := zmem_6 140 (by decide +kernel) rfl
theorem zo_deeds {g : zG} {A : zMu} (hw : zWF A) : zOp g zm_X10_deeds zm_X11_deeds [] A (st_deeds A) :=
  zop_of (wf_deeds hw) (fun μ φ hR h => cx_deeds hw hR h) (fun μ φ hM h => mx_deeds hw hM h)
theorem zl_L_115 : Cond.methodLink "LevelEquationsLaw" 115 yX10_deeds ∈ ztbl := zmem_4 13 (by decide +kernel) rfl
theorem zl_L_119 : Cond.methodLink "LevelEquationsLaw" 119 yX11_deeds ∈ ztbl := zmem_6 145 (by decide +kernel) rfl
theorem zo_read {g : zG} {A : zMu} (hw : zWF A) : zOp g zm_X10_read zm_X11_read [] A (st_read A) :=
  zop_of (wf_read hw) (fun μ φ hR h => cx_read hw hR h.c) (fun μ φ hM h => mx_read hw hM h.m)
theorem zl_L_120 : Cond.methodLink "LevelEquationsLaw" 120 yX10_read ∈ ztbl := zmem_4 146 (by decide +kernel) rfl
theorem zl_L_123 : Cond.methodLink "LevelEquationsLaw" 123 yX11_read ∈ ztbl := zmem_6 186 (by decide +kernel) rfl
theorem zo_write {g : zG} {A : zMu} (hw : zWF A) : zOp g zm_X10_write zm_X11_write [] A (st_write A) :=
  zop_of (wf_write hw) (fun μ φ hR h => cx_write hw hR h.c) (fun μ φ hM h => mx_write hw hM h.m)
theorem zl_L_124 : Cond.methodLink "LevelEquationsLaw" 124 yX10_write ∈ ztbl := zmem_4 168 (by decide +kernel) rfl
theorem zl_L_127 : Cond.methodLink "LevelEquationsLaw" 127 yX11_write ∈ ztbl := zmem_6 201 (by decide +kernel) rfl
theorem zo_paper {g : zG} {A : zMu} {v1 : Int} (hw : zWF A) (h1 : zR v1) : zOp g zm_X10_paper zm_X11_paper [.int (zJ v1)] A (st_paper A v1) :=
  zop_of (wf_paper hw v1) (fun μ φ hR h => cx_paper hw hR h1 h.c) (fun μ φ hM h => mx_paper hw hM h1 h.m)
theorem zl_L_128 : Cond.methodLink "LevelEquationsLaw" 128 yX10_paper ∈ ztbl := zmem_4 188 (by decide +kernel) rfl
theorem zl_L_131 : Cond.methodLink "LevelEquationsLaw" 131 yX11_paper ∈ ztbl := zmem_6 217 (by decide +kernel) rfl
theorem zo_list {g : zG} {A : zMu} {v1 v2 : Int} (hw : zWF A) (h1 : zR v1) (h2 : zR v2) : zOp g zm_X10_list zm_X11_list [.int (zJ v1), .int (zJ v2)] A (st_list A v1 v2) :=
  zop_of (wf_list hw v1 v2) (fun μ φ hR h => cx_list hR h1 h2 h.c) (fun μ φ hM h => mx_list hM h1 h2 h.m)
theorem zl_L_132 : Cond.methodLink "LevelEquationsLaw" 132 yX10_list ∈ ztbl := zmem_4 192 (by decide +kernel) rfl
theorem zl_L_135 : Cond.methodLink "LevelEquationsLaw" 135 yX11_list ∈ ztbl := zmem_6 228 (by decide +kernel) rfl
theorem zo_put {g : zG} {A : zMu} {v1 v2 v3 : Int} (hw : zWF A) (h1 : zR v1) (h2 : zR v2) (h3 : zR v3) : zOp g zm_X10_put zm_X11_put [.int (zJ v1), .int (zJ v2), .int (zJ v3)] A (st_put A v1 v2 v3) :=
  zop_of (wf_put hw h3) (fun μ φ hR h => cx_put hw hR h1 h2 h.c) (fun μ φ hM h => mx_put hw hM h1 h2 h.m)
theorem zl_L_136 : Cond.methodLink "LevelEquationsLaw" 136 yX10_put ∈ ztbl := zmem_4 196 (by decide +kernel) rfl
theorem zl_L_139 : Cond.methodLink "LevelEquationsLaw" 139 yX11_put ∈ ztbl := zmem_6 232 (by decide +kernel) rfl
theorem zo_get {g : zG} {A : zMu} {v1 v2 : Int} (hw : zWF A) (h1 : zR v1) (h2 : zR v2) : zOpl g zm_X10_get zm_X11_get [.int (zJ v1), .int (zJ v2)] A (st_get A v1 v2) :=
  zopl_of (wf_get hw v1 v2) (fun μ φ hR h => cx_get hw hR h1 h2 h.c) (fun μ φ hM h => mx_get hw hM h1 h2 h.m)
theorem zl_L_140 : Cond.methodLink "LevelEquationsLaw" 140 yX10_get ∈ ztbl := zmem_4 200 (by decide +kernel) rfl
theorem zl_L_143 : Cond.methodLink "LevelEquationsLaw" 143 yX11_get ∈ ztbl := zmem_6 236 (by decide +kernel) rfl
theorem zo_lay {g : zG} {A : zMu} {v1 v2 : Int} (hw : zWF A) (h1 : zR v1) (h2 : zR v2) : zOp g zm_X10_lay zm_X11_lay [.int (zJ v1), .int (zJ v2)] A (st_lay A v1 v2) :=
  zop_of (wf_lay hw v1 v2) (fun μ φ hR h => cx_lay hw hR h1 h2 h.c) (fun μ φ hM h => mx_lay hw hM h1 h2 h.m)
theorem zl_L_144 : Cond.methodLink "LevelEquationsLaw" 144 yX10_lay ∈ ztbl := zmem_4 204 (by decide +kernel) rfl
theorem zl_L_147 : Cond.methodLink "LevelEquationsLaw" 147 yX11_lay ∈ ztbl := zmem_7 0 (by decide +kernel) rfl
theorem zo_judge {g : zG} {A : zMu} {v1 v2 : Int} (hw : zWF A) (h1 : zR v1) (h2 : zR v2) : zOp g zm_X10_judge zm_X11_judge [.int (zJ v1), .int (zJ v2)] A (rd_judge A v1 v2, A) :=
  zop_of (hw) (fun μ φ hR h => cx_judge hw hR h1 h2 h.c) (fun μ φ hM h => mx_judge hw hM h1 h2 h.m)
theorem zl_L_148 : Cond.methodLink "LevelEquationsLaw" 148 yX10_judge ∈ ztbl := zmem_4 210 (by decide +kernel) rfl
theorem zl_L_151 : Cond.methodLink "LevelEquationsLaw" 151 yX11_judge ∈ ztbl := zmem_7 4 (by decide +kernel) rfl
theorem zo_image {g : zG} {A : zMu} (hw : zWF A) : zOp g zm_X10_image zm_X11_image [] A (st_image A) :=
  zop_of (wf_image hw) (fun μ φ hR h => cx_image hw hR h.c) (fun μ φ hM h => mx_image hw hM h.m)
theorem zl_L_152 : Cond.methodLink "LevelEquationsLaw" 152 yX10_image ∈ ztbl := zmem_4 214 (by decide +kernel) rfl
theorem zl_L_155 : Cond.methodLink "LevelEquationsLaw" 155 yX11_image ∈ ztbl := zmem_7 8 (by decide +kernel) rfl
theorem zo_back {g : zG} {A : zMu} (hw : zWF A) : zOp g zm_X10_back zm_X11_back [] A (st_back A) :=
  zop_of (wf_back hw) (fun μ φ hR h => cx_back hw hR h.c) (fun μ φ hM h => mx_back hw hM h.m)
theorem zl_L_156 : Cond.methodLink "LevelEquationsLaw" 156 yX10_back ∈ ztbl := zmem_4 233 (by decide +kernel) rfl
theorem zl_L_159 : Cond.methodLink "LevelEquationsLaw" 159 yX11_back ∈ ztbl := zmem_7 19 (by decide +kernel) rfl
theorem zo_count {g : zG} {A : zMu} {v1 : Int} (hw : zWF A) (h1 : zR v1) : zOp g zm_X10_count zm_X11_count [.int (zJ v1)] A (rd_count A v1, A) :=
  zop_of (hw) (fun μ φ hR h => cx_count hw hR h1 h.c) (fun μ φ hM h => mx_count hw hM h1 h.m)
theorem zl_L_160 : Cond.methodLink "LevelEquationsLaw" 160 yX10_count ∈ ztbl := zmem_4 237 (by decide +kernel) rfl
theorem zl_L_163 : Cond.methodLink "LevelEquationsLaw" 163 yX11_count ∈ ztbl := zmem_7 23 (by decide +kernel) rfl
