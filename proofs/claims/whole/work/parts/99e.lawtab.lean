/-! THE CLAIM OUT OF ONE WALK OF THE LAW'S BODY. Your part is whole_start (and what it stands on); all else here is the same for every law, but numbers. -/
def R_law : String := "DraftMergeLaw"
def lw_P (b : Addr) (xs : List Int32) (args : Array Value) (s : State) : Prop := args = #[.ref b] ∧ s.IntsAt b xs ∧ xs.length ≤ 2048 ∧ (Jvm.Cond.and given_1 narrow_1).before args s = true
/-- what a walk over the start with the record d0 says of its end, said of the start itself -/
theorem lw_closed {s t : State} {o : Outcome} {d0 : Drawn} {L : List Loc} {k n : Nat} (hd0 : s.drawn.sameBut d0 lw_cs) (hv : ∃ v, o = .returned v) (hW : (s.setDrawn d0).WarmedH t.vm) (hs : (s.setDrawn d0).sameButNew ({ t with vm := s.vm } : State) L k n) : State.butDraws s t lw_cs (fun t1 => Framed s o t1 L k n) := by
  have h2 : t.drawn = d0 := congrArg State.drawn hs.1
  refine ⟨⟨hv, hW, State.sameButNew.setDrawn hs s.drawn⟩, ?_, by decide⟩
  rw [h2]
  exact hd0
def lw_Q (_ : Array Value) (s : State) (o : Outcome) (t : State) : Prop := o = .returned (some (.int 1)) ∧ State.butDraws s t lw_cs (fun t1 => Framed s o t1 [] 601024 7293034)
def lw_Z (below : List Frame) (a : Array Value) (s : State) : State → Prop := fun t => ∃ o, t.status = .running ∧ Ended t below o ∧ lw_Q a s o t
/-- the law's own end, with 1 on the stack, nothing written that was there before, its room as the claim has it; d0: the record of draws at this point (at the entry s.drawn: begin with 'refine W.base ?_' and 'have hd0 := Drawn.sameBut.refl s.drawn lw_cs') -/
theorem lw_ret {p : Program} {l : Launch} {e : Env} {s : State} {m : MethodId} {below : List Frame} {meth : Method} {c : Code} {b : Nat} {d0 : Drawn} (hd0 : s.drawn.sameBut d0 lw_cs) (hx : p.tables.exec = Jvm.exec) (hb : c.code = code) (hr : meth.sig.returnType = ret) (hlocks : meth.locks = false) {pc : Nat} {H : Heap} {ls : Array Slot} (hdg : decode code pc = .ok (.ireturn, 1)) : W p l e room_1 (s.setDrawn d0) m #[Value.ref b] below meth c H [] 601024 7293034 (lw_Z below #[Value.ref b] s) (F0 m pc ls [.int 1]) := by
  intro T hT X
  obtain ⟨fs, hret, hrun, hended, hW, hframe⟩ := X.leave (v := some (.int 1)) (hlocks := hlocks) (fun h => by rw [hr] at h; cases h)
  have hmeth' : T.vm.method? m = some meth := X.method'
  refine ⟨T.setFrames fs, ?_, .returned (some (.int 1)), hrun, hended, rfl, lw_closed hd0 ⟨_, rfl⟩ hW hframe⟩
  jvm_step X.here [X.here.top, hx, hb, hdg, hmeth', hr, ret, narrow_b1]
  (try refine ⟨rfl, ?_⟩); (try refine ⟨rfl, ?_⟩)
  first | (intro acts; rw [hret _ acts rfl rfl rfl]) | rw [hret _ _ rfl rfl rfl]
  exact Steps.refl _
/-- what holds at the law's entry: the machine, the code, the tables' words (any of lw_tbl by 'hts w (by decide +kernel)'), the script of L ints xs at the cell b, what the Statement gives of the start (any of its parts by flat_of_before) -/
def lw_At (p : Program) (s : State) (m : MethodId) (meth : Method) (c : Code) (b L : Nat) (xs : Nat → Int32) : Prop :=
  p.tables.exec = Jvm.exec ∧ c.code = code ∧ meth.sig.returnType = ret ∧ c.maxLocals = 9 ∧ s.vm.findClass R_law = some m.cls ∧ (∀ w ∈ lw_tbl, w.before #[Value.ref b] s = true) ∧ va_X b L xs s s.heap ∧ b < s.heap.size ∧ meth.locks = false ∧ (Jvm.Cond.and given_1 narrow_1).before #[Value.ref b] s = true
theorem wm_811 : Cond.classLink RL 8 RX6 ∈ lw_all := lw_in (i := 65) (by decide +kernel) rfl
theorem wm_812 : Cond.instantiable RX6 4 ∈ lw_all := lw_in (i := 66) (by decide +kernel) rfl
theorem wm_813 : Cond.methodLink RL 83 yX6_init ∈ lw_all := lw_in (i := 67) (by decide +kernel) rfl
theorem wm_814 : Cond.instanceMethod yX6_init ∈ lw_all := lw_in (i := 68) (by decide +kernel) rfl
theorem wm_815 : Cond.classLink RL 84 RX7 ∈ lw_all := lw_in (i := 905) (by decide +kernel) rfl
theorem wm_816 : Cond.instantiable RX7 22 ∈ lw_all := lw_in (i := 906) (by decide +kernel) rfl
theorem wm_817 : Cond.methodLink RL 86 yX7_init ∈ lw_all := lw_in (i := 907) (by decide +kernel) rfl
theorem wm_818 : Cond.instanceMethod yX7_init ∈ lw_all := lw_in (i := 908) (by decide +kernel) rfl
theorem wm_819 : Cond.arrayClass .long ∈ lw_all := lw_in (i := 1274) (by decide +kernel) rfl
theorem wm_820 : Cond.arrayClass .double ∈ lw_all := lw_in (i := 1275) (by decide +kernel) rfl
theorem wm_821 : Cond.methodLink RL 87 yL_addBase ∈ lw_all := lw_in (i := 506) (by decide +kernel) rfl
theorem wm_822 : Cond.static yL_addBase ∈ lw_all := lw_in (i := 507) (by decide +kernel) rfl
theorem wm_823 : Cond.methodLink RL 92 yX7_addBase ∈ lw_all := lw_in (i := 983) (by decide +kernel) rfl
theorem wm_824 : Cond.instanceMethod yX7_addBase ∈ lw_all := lw_in (i := 984) (by decide +kernel) rfl
theorem wm_825 : Cond.selects RX7 yX7_addBase yX7_addBase ∈ lw_all := lw_in (i := 985) (by decide +kernel) rfl
theorem wm_826 : Cond.methodLink RL 93 yX7_thrown ∈ lw_all := lw_in (i := 979) (by decide +kernel) rfl
theorem wm_827 : Cond.instanceMethod yX7_thrown ∈ lw_all := lw_in (i := 980) (by decide +kernel) rfl
theorem wm_828 : Cond.selects RX7 yX7_thrown yX7_thrown ∈ lw_all := lw_in (i := 981) (by decide +kernel) rfl
theorem wm_829 : Cond.methodLink RL 96 yL_edit ∈ lw_all := lw_in (i := 643) (by decide +kernel) rfl
theorem wm_830 : Cond.static yL_edit ∈ lw_all := lw_in (i := 644) (by decide +kernel) rfl
theorem wm_831 : Cond.methodLink RL 99 yX7_edit ∈ lw_all := lw_in (i := 1021) (by decide +kernel) rfl
theorem wm_832 : Cond.instanceMethod yX7_edit ∈ lw_all := lw_in (i := 1022) (by decide +kernel) rfl
theorem wm_833 : Cond.selects RX7 yX7_edit yX7_edit ∈ lw_all := lw_in (i := 1023) (by decide +kernel) rfl
theorem wm_834 : Cond.methodLink RL 100 yL_move ∈ lw_all := lw_in (i := 684) (by decide +kernel) rfl
theorem wm_835 : Cond.static yL_move ∈ lw_all := lw_in (i := 685) (by decide +kernel) rfl
theorem wm_836 : Cond.methodLink RL 102 yX7_move ∈ lw_all := lw_in (i := 1040) (by decide +kernel) rfl
theorem wm_837 : Cond.instanceMethod yX7_move ∈ lw_all := lw_in (i := 1041) (by decide +kernel) rfl
theorem wm_838 : Cond.selects RX7 yX7_move yX7_move ∈ lw_all := lw_in (i := 1042) (by decide +kernel) rfl
theorem wm_839 : Cond.methodLink RL 103 yL_insert ∈ lw_all := lw_in (i := 703) (by decide +kernel) rfl
theorem wm_840 : Cond.static yL_insert ∈ lw_all := lw_in (i := 704) (by decide +kernel) rfl
theorem wm_841 : Cond.methodLink RL 105 yX7_insert ∈ lw_all := lw_in (i := 1056) (by decide +kernel) rfl
theorem wm_842 : Cond.instanceMethod yX7_insert ∈ lw_all := lw_in (i := 1057) (by decide +kernel) rfl
theorem wm_843 : Cond.selects RX7 yX7_insert yX7_insert ∈ lw_all := lw_in (i := 1058) (by decide +kernel) rfl
theorem wm_844 : Cond.methodLink RL 106 yL_remove ∈ lw_all := lw_in (i := 722) (by decide +kernel) rfl
theorem wm_845 : Cond.static yL_remove ∈ lw_all := lw_in (i := 723) (by decide +kernel) rfl
theorem wm_846 : Cond.methodLink RL 109 yX7_remove ∈ lw_all := lw_in (i := 1068) (by decide +kernel) rfl
theorem wm_847 : Cond.instanceMethod yX7_remove ∈ lw_all := lw_in (i := 1069) (by decide +kernel) rfl
theorem wm_848 : Cond.selects RX7 yX7_remove yX7_remove ∈ lw_all := lw_in (i := 1070) (by decide +kernel) rfl
theorem wm_849 : Cond.methodLink RL 110 yX6_baseSize ∈ lw_all := lw_in (i := 250) (by decide +kernel) rfl
theorem wm_850 : Cond.instanceMethod yX6_baseSize ∈ lw_all := lw_in (i := 251) (by decide +kernel) rfl
theorem wm_851 : Cond.selects RX6 yX6_baseSize yX6_baseSize ∈ lw_all := lw_in (i := 252) (by decide +kernel) rfl
theorem wm_852 : Cond.methodLink RL 113 yX7_baseSize ∈ lw_all := lw_in (i := 1080) (by decide +kernel) rfl
theorem wm_853 : Cond.instanceMethod yX7_baseSize ∈ lw_all := lw_in (i := 1081) (by decide +kernel) rfl
theorem wm_854 : Cond.selects RX7 yX7_baseSize yX7_baseSize ∈ lw_all := lw_in (i := 1082) (by decide +kernel) rfl
theorem wm_855 : Cond.methodLink RL 114 yL_size ∈ lw_all := lw_in (i := 734) (by decide +kernel) rfl
theorem wm_856 : Cond.static yL_size ∈ lw_all := lw_in (i := 735) (by decide +kernel) rfl
theorem wm_857 : Cond.methodLink RL 116 yX7_size ∈ lw_all := lw_in (i := 1084) (by decide +kernel) rfl
theorem wm_858 : Cond.instanceMethod yX7_size ∈ lw_all := lw_in (i := 1085) (by decide +kernel) rfl
theorem wm_859 : Cond.selects RX7 yX7_size yX7_size ∈ lw_all := lw_in (i := 1086) (by decide +kernel) rfl
theorem wm_860 : Cond.methodLink RL 117 yL_block ∈ lw_all := lw_in (i := 742) (by decide +kernel) rfl
theorem wm_861 : Cond.static yL_block ∈ lw_all := lw_in (i := 743) (by decide +kernel) rfl
theorem wm_862 : Cond.methodLink RL 119 yX7_block ∈ lw_all := lw_in (i := 1088) (by decide +kernel) rfl
theorem wm_863 : Cond.instanceMethod yX7_block ∈ lw_all := lw_in (i := 1089) (by decide +kernel) rfl
theorem wm_864 : Cond.selects RX7 yX7_block yX7_block ∈ lw_all := lw_in (i := 1090) (by decide +kernel) rfl
theorem wm_865 : Cond.methodLink RL 120 yL_content ∈ lw_all := lw_in (i := 749) (by decide +kernel) rfl
theorem wm_866 : Cond.static yL_content ∈ lw_all := lw_in (i := 750) (by decide +kernel) rfl
theorem wm_867 : Cond.methodLink RL 122 yX7_content ∈ lw_all := lw_in (i := 1092) (by decide +kernel) rfl
theorem wm_868 : Cond.instanceMethod yX7_content ∈ lw_all := lw_in (i := 1093) (by decide +kernel) rfl
theorem wm_869 : Cond.selects RX7 yX7_content yX7_content ∈ lw_all := lw_in (i := 1094) (by decide +kernel) rfl
theorem wm_870 : Cond.methodLink RL 123 yL_change ∈ lw_all := lw_in (i := 756) (by decide +kernel) rfl
theorem wm_871 : Cond.static yL_change ∈ lw_all := lw_in (i := 757) (by decide +kernel) rfl
theorem wm_872 : Cond.methodLink RL 125 yX7_change ∈ lw_all := lw_in (i := 1096) (by decide +kernel) rfl
theorem wm_873 : Cond.instanceMethod yX7_change ∈ lw_all := lw_in (i := 1097) (by decide +kernel) rfl
theorem wm_874 : Cond.selects RX7 yX7_change yX7_change ∈ lw_all := lw_in (i := 1098) (by decide +kernel) rfl
theorem wm_875 : Cond.methodLink RL 126 yL_moves ∈ lw_all := lw_in (i := 765) (by decide +kernel) rfl
theorem wm_876 : Cond.static yL_moves ∈ lw_all := lw_in (i := 766) (by decide +kernel) rfl
theorem wm_877 : Cond.methodLink RL 128 yX7_moves ∈ lw_all := lw_in (i := 1128) (by decide +kernel) rfl
theorem wm_878 : Cond.instanceMethod yX7_moves ∈ lw_all := lw_in (i := 1129) (by decide +kernel) rfl
theorem wm_879 : Cond.selects RX7 yX7_moves yX7_moves ∈ lw_all := lw_in (i := 1130) (by decide +kernel) rfl
theorem wm_880 : Cond.methodLink RL 129 yX6_mergedSize ∈ lw_all := lw_in (i := 254) (by decide +kernel) rfl
theorem wm_881 : Cond.instanceMethod yX6_mergedSize ∈ lw_all := lw_in (i := 255) (by decide +kernel) rfl
theorem wm_882 : Cond.selects RX6 yX6_mergedSize yX6_mergedSize ∈ lw_all := lw_in (i := 256) (by decide +kernel) rfl
theorem wm_883 : Cond.methodLink RL 132 yX7_mergedSize ∈ lw_all := lw_in (i := 1132) (by decide +kernel) rfl
theorem wm_884 : Cond.instanceMethod yX7_mergedSize ∈ lw_all := lw_in (i := 1133) (by decide +kernel) rfl
theorem wm_885 : Cond.selects RX7 yX7_mergedSize yX7_mergedSize ∈ lw_all := lw_in (i := 1134) (by decide +kernel) rfl
theorem wm_886 : Cond.methodLink RL 133 yL_mergedBlock ∈ lw_all := lw_in (i := 777) (by decide +kernel) rfl
theorem wm_887 : Cond.static yL_mergedBlock ∈ lw_all := lw_in (i := 778) (by decide +kernel) rfl
theorem wm_888 : Cond.methodLink RL 135 yX7_mergedBlock ∈ lw_all := lw_in (i := 1164) (by decide +kernel) rfl
theorem wm_889 : Cond.instanceMethod yX7_mergedBlock ∈ lw_all := lw_in (i := 1165) (by decide +kernel) rfl
theorem wm_890 : Cond.selects RX7 yX7_mergedBlock yX7_mergedBlock ∈ lw_all := lw_in (i := 1166) (by decide +kernel) rfl
theorem wm_891 : Cond.methodLink RL 136 yL_mergedContent ∈ lw_all := lw_in (i := 785) (by decide +kernel) rfl
theorem wm_892 : Cond.static yL_mergedContent ∈ lw_all := lw_in (i := 786) (by decide +kernel) rfl
theorem wm_893 : Cond.methodLink RL 138 yX7_mergedContent ∈ lw_all := lw_in (i := 1168) (by decide +kernel) rfl
theorem wm_894 : Cond.instanceMethod yX7_mergedContent ∈ lw_all := lw_in (i := 1169) (by decide +kernel) rfl
theorem wm_895 : Cond.selects RX7 yX7_mergedContent yX7_mergedContent ∈ lw_all := lw_in (i := 1170) (by decide +kernel) rfl
theorem wm_896 : Cond.methodLink RL 139 yX6_conflicts ∈ lw_all := lw_in (i := 408) (by decide +kernel) rfl
theorem wm_897 : Cond.instanceMethod yX6_conflicts ∈ lw_all := lw_in (i := 409) (by decide +kernel) rfl
theorem wm_898 : Cond.selects RX6 yX6_conflicts yX6_conflicts ∈ lw_all := lw_in (i := 410) (by decide +kernel) rfl
theorem wm_899 : Cond.methodLink RL 142 yX7_conflicts ∈ lw_all := lw_in (i := 1172) (by decide +kernel) rfl
theorem wm_900 : Cond.instanceMethod yX7_conflicts ∈ lw_all := lw_in (i := 1173) (by decide +kernel) rfl
theorem wm_901 : Cond.selects RX7 yX7_conflicts yX7_conflicts ∈ lw_all := lw_in (i := 1174) (by decide +kernel) rfl
theorem wm_902 : Cond.methodLink RL 143 yL_conflictBlock ∈ lw_all := lw_in (i := 792) (by decide +kernel) rfl
theorem wm_903 : Cond.static yL_conflictBlock ∈ lw_all := lw_in (i := 793) (by decide +kernel) rfl
theorem wm_904 : Cond.methodLink RL 145 yX7_conflictBlock ∈ lw_all := lw_in (i := 1176) (by decide +kernel) rfl
theorem wm_905 : Cond.instanceMethod yX7_conflictBlock ∈ lw_all := lw_in (i := 1177) (by decide +kernel) rfl
theorem wm_906 : Cond.selects RX7 yX7_conflictBlock yX7_conflictBlock ∈ lw_all := lw_in (i := 1178) (by decide +kernel) rfl
theorem wm_907 : Cond.methodLink RL 146 yL_conflictKind ∈ lw_all := lw_in (i := 804) (by decide +kernel) rfl
theorem wm_908 : Cond.static yL_conflictKind ∈ lw_all := lw_in (i := 805) (by decide +kernel) rfl
theorem wm_909 : Cond.methodLink RL 148 yX7_conflictKind ∈ lw_all := lw_in (i := 1180) (by decide +kernel) rfl
theorem wm_910 : Cond.instanceMethod yX7_conflictKind ∈ lw_all := lw_in (i := 1181) (by decide +kernel) rfl
theorem wm_911 : Cond.selects RX7 yX7_conflictKind yX7_conflictKind ∈ lw_all := lw_in (i := 1182) (by decide +kernel) rfl
theorem wm_912 : Cond.methodLink RL 149 yL_choose ∈ lw_all := lw_in (i := 811) (by decide +kernel) rfl
theorem wm_913 : Cond.static yL_choose ∈ lw_all := lw_in (i := 812) (by decide +kernel) rfl
theorem wm_914 : Cond.methodLink RL 151 yX7_choose ∈ lw_all := lw_in (i := 1184) (by decide +kernel) rfl
theorem wm_915 : Cond.instanceMethod yX7_choose ∈ lw_all := lw_in (i := 1185) (by decide +kernel) rfl
theorem wm_916 : Cond.selects RX7 yX7_choose yX7_choose ∈ lw_all := lw_in (i := 1186) (by decide +kernel) rfl
theorem wm_917 : Cond.methodLink RL 152 yL_prefer ∈ lw_all := lw_in (i := 823) (by decide +kernel) rfl
theorem wm_918 : Cond.static yL_prefer ∈ lw_all := lw_in (i := 824) (by decide +kernel) rfl
theorem wm_919 : Cond.methodLink RL 154 yX7_prefer ∈ lw_all := lw_in (i := 1188) (by decide +kernel) rfl
theorem wm_920 : Cond.instanceMethod yX7_prefer ∈ lw_all := lw_in (i := 1189) (by decide +kernel) rfl
theorem wm_921 : Cond.selects RX7 yX7_prefer yX7_prefer ∈ lw_all := lw_in (i := 1190) (by decide +kernel) rfl
theorem wm_922 : Cond.methodLink RL 155 yX6_open ∈ lw_all := lw_in (i := 412) (by decide +kernel) rfl
theorem wm_923 : Cond.instanceMethod yX6_open ∈ lw_all := lw_in (i := 413) (by decide +kernel) rfl
theorem wm_924 : Cond.selects RX6 yX6_open yX6_open ∈ lw_all := lw_in (i := 414) (by decide +kernel) rfl
theorem wm_925 : Cond.methodLink RL 158 yX7_open ∈ lw_all := lw_in (i := 1192) (by decide +kernel) rfl
theorem wm_926 : Cond.instanceMethod yX7_open ∈ lw_all := lw_in (i := 1193) (by decide +kernel) rfl
theorem wm_927 : Cond.selects RX7 yX7_open yX7_open ∈ lw_all := lw_in (i := 1194) (by decide +kernel) rfl
theorem wm_928 : Cond.methodLink RL 159 yL_accept ∈ lw_all := lw_in (i := 830) (by decide +kernel) rfl
theorem wm_929 : Cond.static yL_accept ∈ lw_all := lw_in (i := 831) (by decide +kernel) rfl
theorem wm_930 : Cond.methodLink RL 162 yX7_accept ∈ lw_all := lw_in (i := 1200) (by decide +kernel) rfl
theorem wm_931 : Cond.instanceMethod yX7_accept ∈ lw_all := lw_in (i := 1201) (by decide +kernel) rfl
theorem wm_932 : Cond.selects RX7 yX7_accept yX7_accept ∈ lw_all := lw_in (i := 1202) (by decide +kernel) rfl
theorem wm_933 : Cond.methodLink RL 163 yX6_accepted ∈ lw_all := lw_in (i := 429) (by decide +kernel) rfl
theorem wm_934 : Cond.instanceMethod yX6_accepted ∈ lw_all := lw_in (i := 430) (by decide +kernel) rfl
theorem wm_935 : Cond.selects RX6 yX6_accepted yX6_accepted ∈ lw_all := lw_in (i := 431) (by decide +kernel) rfl
theorem wm_936 : Cond.methodLink RL 166 yX7_accepted ∈ lw_all := lw_in (i := 1204) (by decide +kernel) rfl
theorem wm_937 : Cond.instanceMethod yX7_accepted ∈ lw_all := lw_in (i := 1205) (by decide +kernel) rfl
theorem wm_938 : Cond.selects RX7 yX7_accepted yX7_accepted ∈ lw_all := lw_in (i := 1206) (by decide +kernel) rfl
theorem wm_939 : Cond.methodLink RL 167 yL_similarity ∈ lw_all := lw_in (i := 844) (by decide +kernel) rfl
theorem wm_940 : Cond.static yL_similarity ∈ lw_all := lw_in (i := 845) (by decide +kernel) rfl
theorem wm_941 : Cond.methodLink RL 170 yX7_similarity ∈ lw_all := lw_in (i := 1208) (by decide +kernel) rfl
theorem wm_942 : Cond.instanceMethod yX7_similarity ∈ lw_all := lw_in (i := 1209) (by decide +kernel) rfl
theorem wm_943 : Cond.selects RX7 yX7_similarity yX7_similarity ∈ lw_all := lw_in (i := 1210) (by decide +kernel) rfl
theorem wm_944 : Cond.methodLink RL 171 yL_append ∈ lw_all := lw_in (i := 855) (by decide +kernel) rfl
theorem wm_945 : Cond.static yL_append ∈ lw_all := lw_in (i := 856) (by decide +kernel) rfl
theorem wm_946 : Cond.methodLink RL 173 yX7_append ∈ lw_all := lw_in (i := 1212) (by decide +kernel) rfl
theorem wm_947 : Cond.instanceMethod yX7_append ∈ lw_all := lw_in (i := 1213) (by decide +kernel) rfl
theorem wm_948 : Cond.selects RX7 yX7_append yX7_append ∈ lw_all := lw_in (i := 1214) (by decide +kernel) rfl
theorem wm_949 : Cond.methodLink RL 174 yX6_clearText ∈ lw_all := lw_in (i := 433) (by decide +kernel) rfl
theorem wm_950 : Cond.instanceMethod yX6_clearText ∈ lw_all := lw_in (i := 434) (by decide +kernel) rfl
theorem wm_951 : Cond.selects RX6 yX6_clearText yX6_clearText ∈ lw_all := lw_in (i := 435) (by decide +kernel) rfl
theorem wm_952 : Cond.methodLink RL 177 yX7_clearText ∈ lw_all := lw_in (i := 1216) (by decide +kernel) rfl
theorem wm_953 : Cond.instanceMethod yX7_clearText ∈ lw_all := lw_in (i := 1217) (by decide +kernel) rfl
theorem wm_954 : Cond.selects RX7 yX7_clearText yX7_clearText ∈ lw_all := lw_in (i := 1218) (by decide +kernel) rfl
theorem wm_955 : Cond.methodLink RL 178 yX6_firstError ∈ lw_all := lw_in (i := 441) (by decide +kernel) rfl
theorem wm_956 : Cond.instanceMethod yX6_firstError ∈ lw_all := lw_in (i := 442) (by decide +kernel) rfl
theorem wm_957 : Cond.selects RX6 yX6_firstError yX6_firstError ∈ lw_all := lw_in (i := 443) (by decide +kernel) rfl
theorem wm_958 : Cond.methodLink RL 181 yX7_firstError ∈ lw_all := lw_in (i := 1220) (by decide +kernel) rfl
theorem wm_959 : Cond.instanceMethod yX7_firstError ∈ lw_all := lw_in (i := 1221) (by decide +kernel) rfl
theorem wm_960 : Cond.selects RX7 yX7_firstError yX7_firstError ∈ lw_all := lw_in (i := 1222) (by decide +kernel) rfl
theorem wm_961 : Cond.methodLink RL 182 yL_run ∈ lw_all := lw_in (i := 869) (by decide +kernel) rfl
theorem wm_962 : Cond.static yL_run ∈ lw_all := lw_in (i := 870) (by decide +kernel) rfl
theorem wm_963 : Cond.methodLink RL 184 yX7_run ∈ lw_all := lw_in (i := 1248) (by decide +kernel) rfl
theorem wm_964 : Cond.instanceMethod yX7_run ∈ lw_all := lw_in (i := 1249) (by decide +kernel) rfl
theorem wm_965 : Cond.selects RX7 yX7_run yX7_run ∈ lw_all := lw_in (i := 1250) (by decide +kernel) rfl
theorem wm_966 : Cond.methodLink RL 185 yL_undo ∈ lw_all := lw_in (i := 893) (by decide +kernel) rfl
theorem wm_967 : Cond.static yL_undo ∈ lw_all := lw_in (i := 894) (by decide +kernel) rfl
theorem wm_968 : Cond.methodLink RL 187 yX7_undo ∈ lw_all := lw_in (i := 1260) (by decide +kernel) rfl
theorem wm_969 : Cond.instanceMethod yX7_undo ∈ lw_all := lw_in (i := 1261) (by decide +kernel) rfl
theorem wm_970 : Cond.selects RX7 yX7_undo yX7_undo ∈ lw_all := lw_in (i := 1262) (by decide +kernel) rfl
theorem wm_971 : Cond.methodLink RL 188 yX6_savedStates ∈ lw_all := lw_in (i := 485) (by decide +kernel) rfl
theorem wm_972 : Cond.instanceMethod yX6_savedStates ∈ lw_all := lw_in (i := 486) (by decide +kernel) rfl
theorem wm_973 : Cond.selects RX6 yX6_savedStates yX6_savedStates ∈ lw_all := lw_in (i := 487) (by decide +kernel) rfl
theorem wm_974 : Cond.methodLink RL 191 yX7_savedStates ∈ lw_all := lw_in (i := 1264) (by decide +kernel) rfl
theorem wm_975 : Cond.instanceMethod yX7_savedStates ∈ lw_all := lw_in (i := 1265) (by decide +kernel) rfl
theorem wm_976 : Cond.selects RX7 yX7_savedStates yX7_savedStates ∈ lw_all := lw_in (i := 1266) (by decide +kernel) rfl
theorem wm_977 : Cond.methodLink RL 192 yX6_digest ∈ lw_all := lw_in (i := 489) (by decide +kernel) rfl
theorem wm_978 : Cond.instanceMethod yX6_digest ∈ lw_all := lw_in (i := 490) (by decide +kernel) rfl
theorem wm_979 : Cond.selects RX6 yX6_digest yX6_digest ∈ lw_all := lw_in (i := 491) (by decide +kernel) rfl
theorem wm_980 : Cond.methodLink RL 196 yX7_digest ∈ lw_all := lw_in (i := 1268) (by decide +kernel) rfl
theorem wm_981 : Cond.instanceMethod yX7_digest ∈ lw_all := lw_in (i := 1269) (by decide +kernel) rfl
theorem wm_982 : Cond.selects RX7 yX7_digest yX7_digest ∈ lw_all := lw_in (i := 1270) (by decide +kernel) rfl
theorem zsw_law : ∀ (k t : Nat), ([180, 236, 316, 396, 476, 544, 557, 613, 681, 749, 817, 873, 886, 942, 998, 1011, 1067, 1123, 1191, 1247, 1260, 1304, 1317, 1394, 1450, 1463, 1476, 1520, 1564, 1577] : List Nat)[k]? = some t → ∃ off, (#[136, 192, 272, 352, 432, 500, 513, 569, 637, 705, 773, 829, 842, 898, 954, 967, 1023, 1079, 1147, 1203, 1216, 1260, 1273, 1350, 1406, 1419, 1432, 1476, 1520, 1533] : Array Int)[k]? = some off ∧ ((44 : Nat) : Int) + off = (t : Int) := by
  have key : (List.range 30).all (fun k => match ([180, 236, 316, 396, 476, 544, 557, 613, 681, 749, 817, 873, 886, 942, 998, 1011, 1067, 1123, 1191, 1247, 1260, 1304, 1317, 1394, 1450, 1463, 1476, 1520, 1564, 1577] : List Nat)[k]?, (#[136, 192, 272, 352, 432, 500, 513, 569, 637, 705, 773, 829, 842, 898, 954, 967, 1023, 1079, 1147, 1203, 1216, 1260, 1273, 1350, 1406, 1419, 1432, 1476, 1520, 1533] : Array Int)[k]? with
    | some t, some off => decide (((44 : Nat) : Int) + off = (t : Int))
    | _, _ => false) = true := by decide +kernel
  intro k t h
  have hk : k < 30 := (List.getElem?_eq_some_iff.mp h).1
  have h1 := List.all_eq_true.mp key k (List.mem_range.mpr hk)
  rw [h] at h1
  cases e : (#[136, 192, 272, 352, 432, 500, 513, 569, 637, 705, 773, 829, 842, 898, 954, 967, 1023, 1079, 1147, 1203, 1216, 1260, 1273, 1350, 1406, 1419, 1432, 1476, 1520, 1533] : Array Int)[k]? with
  | none => rw [e] at h1; exact nomatch h1
  | some off =>
    rw [e] at h1
    exact ⟨off, rfl, of_decide_eq_true h1⟩
def zLA (dA : Nat → ClassId) (s : State) : Nat → Prop := va_A (zW dA (fun i => i) (fun _ => .inr (0, [])) 0) s.heap.size
abbrev zCtxL (bS L : Nat) (xs : Nat → Int32) (D : va_G) (dA : Nat → ClassId) (p : Program) (s : State) (m : MethodId) (meth : Method) (c : Code) : Prop :=
  CallFix p m c cL_law 9 s #[Value.ref bS] lw_all RL ∧ meth.sig.returnType = ret ∧ meth.locks = false ∧ True ∧ True ∧ va_K D vwCl (zTys dA RX5) s ∧ zEnv zSt zNw zNc RX5 (zLA dA s) s s.heap ∧ va_X bS L xs s s.heap ∧ bS < s.heap.size ∧ ¬ zLA dA s bS
theorem zsL_end {p : Program} {l : Launch} {e : Env} {s : State} {m : MethodId} {below : List Frame} {meth : Method} {c : Code} {D : va_G} {dA : Nat → ClassId} {bS pc : Nat} {C : zK} {R' : zQ} (F : CallFix p m c cL_law 9 s #[Value.ref bS] lw_all RL) (hr9 : meth.sig.returnType = ret) (hlk : meth.locks = false) (hd : decode cL_law pc = .ok (.ireturn, 1)) : zSnd (zConcL p l e room_1 s m #[Value.ref bS] below meth c (lw_Z below #[Value.ref bS] s) 9 D vwCl dA (zLA dA s) (fun i => i) 0 bS) C R' pc zt_end := by
  intro ls st h n cu su ht hw hr hnn ad H locs lsA ha hP hD hS hl
  match st, ht, hw with
  | [.int v], ht, hw =>
    have hv : v = 1 := ht
    subst hv
    refine W.base (W.widen hr.1 hr.2 (va_forget (fun q hq => ?_) (lw_ret (Drawn.sameBut.refl s.drawn lw_cs) F.1 F.2.1 hr9 hlk hd)))
    rcases hS.2.2 q hq with ⟨k, e, h1⟩ | h1
    · exact nomatch h1
    · exact h1
/-- an entry of the law's table is sound -/
def zEntL (bS L : Nat) (xs : Nat → Int32) (q : Nat × zT) : Prop :=
  ∀ {l : Launch} {D : va_G} {dA : Nat → ClassId} {Q : zQ} {p : Program} {e : Env} {s : State} {m : MethodId} {below : List Frame} {meth : Method} {c : Code},
    zCtxL bS L xs D dA p s m meth c → zSnd (zConcL p l e room_1 s m #[Value.ref bS] below meth c (lw_Z below #[Value.ref bS] s) 9 D vwCl dA (zLA dA s) (fun i => i) 0 bS) (zMet l D vwCl dA RX5 zSt zNw zNc zMt) Q q.1 q.2
def zT_law_0 (xs : Nat → Int32) (L : Nat) : List (Nat × zT) := [(0, zt_new 6 [.null, .null, .null, .null] (601024, 7293034) 3), (3, zt_dup 4), (4, zt_callvm 6 74 1 95 1163 (601024, 7293034) 7), (7, zt_astore 1 8), (8, zt_new 7 [.null, .null, .int 0, .null, .int 0, .int 0, .null, .null, .null, .int 0, .null, .null, .int 0, .null, .null, .null, .int 0, .int 0, .int 0, .int 0, .int 0, .int 0] (601024, 7293034) 11), (11, zt_dup 12), (12, zt_callvm 7 118 1 11 958 (601024, 7293034) 15), (15, zt_astore 2 16), (16, zt_iconst 1 17), (17, zt_newl (601024, 7293034) 19), (19, zt_astore 3 20), (20, zt_iconst 1 21), (21, zt_newd (601024, 7293034) 23), (23, zt_astore 4 25), (25, zt_iconst 0 26), (26, zt_istore 5 28), (28, zt_iload 5 30), (30, zt_slen L 32), (32, zt_iconst 4 33), (33, zt_isub 34), (34, zt_icmpgt 1597 37), (37, zt_sld xs L 5 0 41), (41, zt_iconst 31 43), (43, zt_iand 44), (44, zt_switch [180, 236, 316, 396, 476, 544, 557, 613, 681, 749, 817, 873, 886, 942, 998, 1011, 1067, 1123, 1191, 1247, 1260, 1304, 1317, 1394, 1450, 1463, 1476, 1520, 1564, 1577] 1591)]
def zT_law_1 (xs : Nat → Int32) (L : Nat) : List (Nat × zT) := []
def zT_law_2 (xs : Nat → Int32) (L : Nat) : List (Nat × zT) := [(180, zt_aload 1 181), (181, zt_sld xs L 5 1 187), (187, zt_aload 3 188), (188, zt_callm 194 3 1 6 (601024, 7293034) 191), (191, zt_istore 6 193)]
def zT_law_3 (xs : Nat → Int32) (L : Nat) : List (Nat × zT) := [(193, zt_aload 2 194), (194, zt_sld xs L 5 1 200), (200, zt_callv 7 136 2 203), (203, zt_istore 7 205), (205, zt_aload 2 206), (206, zt_callv 7 119 1 209), (209, zt_iload 6 211), (211, zt_icmpeq 216 214), (214, zt_iconst 0 215), (215, zt_end), (216, zt_iload 6 218), (218, zt_ifne 233 221), (221, zt_aload 3 222), (222, zt_iconst 0 223), (223, zt_lald 224), (224, zt_iload 7 226), (226, zt_i2l 227), (227, zt_leq 233 231), (231, zt_iconst 0 232), (232, zt_end), (233, zt_goto 1591 []), (236, zt_aload 1 237), (237, zt_sld xs L 5 1 243), (243, zt_sld xs L 5 2 249), (249, zt_sld xs L 5 3 255), (255, zt_aload 3 256)]
def zT_law_4 (xs : Nat → Int32) (L : Nat) : List (Nat × zT) := [(256, zt_callm 195 5 1 6 (601024, 7293034) 259), (259, zt_istore 6 261), (261, zt_aload 2 262), (262, zt_sld xs L 5 1 268), (268, zt_sld xs L 5 2 274), (274, zt_sld xs L 5 3 280), (280, zt_callv 7 145 4 283), (283, zt_istore 7 285), (285, zt_aload 2 286), (286, zt_callv 7 119 1 289), (289, zt_iload 6 291), (291, zt_icmpeq 296 294), (294, zt_iconst 0 295), (295, zt_end), (296, zt_iload 6 298), (298, zt_ifne 313 301), (301, zt_aload 3 302), (302, zt_iconst 0 303), (303, zt_lald 304), (304, zt_iload 7 306), (306, zt_i2l 307), (307, zt_leq 313 311), (311, zt_iconst 0 312), (312, zt_end), (313, zt_goto 1591 []), (316, zt_aload 1 317), (317, zt_sld xs L 5 1 323)]
def zT_law_5 (xs : Nat → Int32) (L : Nat) : List (Nat × zT) := [(323, zt_sld xs L 5 2 329), (329, zt_sld xs L 5 3 335), (335, zt_aload 3 336), (336, zt_callm 196 5 1 6 (601024, 7293034) 339), (339, zt_istore 6 341), (341, zt_aload 2 342), (342, zt_sld xs L 5 1 348), (348, zt_sld xs L 5 2 354), (354, zt_sld xs L 5 3 360), (360, zt_callv 7 146 4 363), (363, zt_istore 7 365), (365, zt_aload 2 366), (366, zt_callv 7 119 1 369), (369, zt_iload 6 371), (371, zt_icmpeq 376 374), (374, zt_iconst 0 375), (375, zt_end), (376, zt_iload 6 378), (378, zt_ifne 393 381), (381, zt_aload 3 382), (382, zt_iconst 0 383), (383, zt_lald 384)]
def zT_law_6 (xs : Nat → Int32) (L : Nat) : List (Nat × zT) := [(384, zt_iload 7 386), (386, zt_i2l 387), (387, zt_leq 393 391), (391, zt_iconst 0 392), (392, zt_end), (393, zt_goto 1591 []), (396, zt_aload 1 397), (397, zt_sld xs L 5 1 403), (403, zt_sld xs L 5 2 409), (409, zt_sld xs L 5 3 415), (415, zt_aload 3 416), (416, zt_callm 197 5 1 6 (601024, 7293034) 419), (419, zt_istore 6 421), (421, zt_aload 2 422), (422, zt_sld xs L 5 1 428), (428, zt_sld xs L 5 2 434), (434, zt_sld xs L 5 3 440), (440, zt_callv 7 147 4 443), (443, zt_istore 7 445), (445, zt_aload 2 446), (446, zt_callv 7 119 1 449)]
def zT_law_7 (xs : Nat → Int32) (L : Nat) : List (Nat × zT) := [(449, zt_iload 6 451), (451, zt_icmpeq 456 454), (454, zt_iconst 0 455), (455, zt_end), (456, zt_iload 6 458), (458, zt_ifne 473 461), (461, zt_aload 3 462), (462, zt_iconst 0 463), (463, zt_lald 464), (464, zt_iload 7 466), (466, zt_i2l 467), (467, zt_leq 473 471), (471, zt_iconst 0 472), (472, zt_end), (473, zt_goto 1591 []), (476, zt_aload 1 477), (477, zt_sld xs L 5 1 483), (483, zt_sld xs L 5 2 489), (489, zt_aload 3 490), (490, zt_callm 198 4 1 6 (601024, 7293034) 493), (493, zt_istore 6 495), (495, zt_aload 2 496), (496, zt_sld xs L 5 1 502), (502, zt_sld xs L 5 2 508), (508, zt_callv 7 148 3 511), (511, zt_istore 7 513)]
def zT_law_8 (xs : Nat → Int32) (L : Nat) : List (Nat × zT) := [(513, zt_aload 2 514), (514, zt_callv 7 119 1 517), (517, zt_iload 6 519), (519, zt_icmpeq 524 522), (522, zt_iconst 0 523), (523, zt_end), (524, zt_iload 6 526), (526, zt_ifne 541 529), (529, zt_aload 3 530), (530, zt_iconst 0 531), (531, zt_lald 532), (532, zt_iload 7 534), (534, zt_i2l 535), (535, zt_leq 541 539), (539, zt_iconst 0 540), (540, zt_end), (541, zt_goto 1591 []), (544, zt_aload 1 545), (545, zt_callv 6 80 1 548), (548, zt_aload 2 549), (549, zt_callv 7 149 1 552), (552, zt_icmpeq 1591 555), (555, zt_iconst 0 556), (556, zt_end), (557, zt_aload 1 558), (558, zt_sld xs L 5 1 564), (564, zt_aload 3 565), (565, zt_callm 199 3 1 6 (601024, 7293034) 568), (568, zt_istore 6 570), (570, zt_aload 2 571), (571, zt_sld xs L 5 1 577)]
def zT_law_9 (xs : Nat → Int32) (L : Nat) : List (Nat × zT) := [(577, zt_callv 7 150 2 580), (580, zt_istore 7 582), (582, zt_aload 2 583), (583, zt_callv 7 119 1 586), (586, zt_iload 6 588), (588, zt_icmpeq 593 591), (591, zt_iconst 0 592), (592, zt_end), (593, zt_iload 6 595), (595, zt_ifne 610 598), (598, zt_aload 3 599), (599, zt_iconst 0 600), (600, zt_lald 601), (601, zt_iload 7 603), (603, zt_i2l 604), (604, zt_leq 610 608), (608, zt_iconst 0 609), (609, zt_end), (610, zt_goto 1591 []), (613, zt_aload 1 614), (614, zt_sld xs L 5 1 620), (620, zt_sld xs L 5 2 626), (626, zt_aload 3 627), (627, zt_callm 200 4 1 6 (601024, 7293034) 630), (630, zt_istore 6 632), (632, zt_aload 2 633), (633, zt_sld xs L 5 1 639), (639, zt_sld xs L 5 2 645)]
def zT_law_10 (xs : Nat → Int32) (L : Nat) : List (Nat × zT) := [(645, zt_callv 7 151 3 648), (648, zt_istore 7 650), (650, zt_aload 2 651), (651, zt_callv 7 119 1 654), (654, zt_iload 6 656), (656, zt_icmpeq 661 659), (659, zt_iconst 0 660), (660, zt_end), (661, zt_iload 6 663), (663, zt_ifne 678 666), (666, zt_aload 3 667), (667, zt_iconst 0 668), (668, zt_lald 669), (669, zt_iload 7 671), (671, zt_i2l 672), (672, zt_leq 678 676), (676, zt_iconst 0 677), (677, zt_end), (678, zt_goto 1591 []), (681, zt_aload 1 682), (682, zt_sld xs L 5 1 688), (688, zt_sld xs L 5 2 694), (694, zt_aload 3 695), (695, zt_callm 201 4 1 6 (601024, 7293034) 698), (698, zt_istore 6 700), (700, zt_aload 2 701), (701, zt_sld xs L 5 1 707)]
def zT_law_11 (xs : Nat → Int32) (L : Nat) : List (Nat × zT) := [(707, zt_sld xs L 5 2 713), (713, zt_callv 7 152 3 716), (716, zt_istore 7 718), (718, zt_aload 2 719), (719, zt_callv 7 119 1 722), (722, zt_iload 6 724), (724, zt_icmpeq 729 727), (727, zt_iconst 0 728), (728, zt_end), (729, zt_iload 6 731), (731, zt_ifne 746 734), (734, zt_aload 3 735), (735, zt_iconst 0 736), (736, zt_lald 737), (737, zt_iload 7 739), (739, zt_i2l 740), (740, zt_leq 746 744), (744, zt_iconst 0 745), (745, zt_end), (746, zt_goto 1591 []), (749, zt_aload 1 750), (750, zt_sld xs L 5 1 756), (756, zt_sld xs L 5 2 762), (762, zt_aload 3 763), (763, zt_callm 202 4 1 6 (601024, 7293034) 766), (766, zt_istore 6 768)]
def zT_law_12 (xs : Nat → Int32) (L : Nat) : List (Nat × zT) := [(768, zt_aload 2 769), (769, zt_sld xs L 5 1 775), (775, zt_sld xs L 5 2 781), (781, zt_callv 7 156 3 784), (784, zt_istore 7 786), (786, zt_aload 2 787), (787, zt_callv 7 119 1 790), (790, zt_iload 6 792), (792, zt_icmpeq 797 795), (795, zt_iconst 0 796), (796, zt_end), (797, zt_iload 6 799), (799, zt_ifne 814 802), (802, zt_aload 3 803), (803, zt_iconst 0 804), (804, zt_lald 805), (805, zt_iload 7 807), (807, zt_i2l 808), (808, zt_leq 814 812), (812, zt_iconst 0 813), (813, zt_end), (814, zt_goto 1591 []), (817, zt_aload 1 818), (818, zt_sld xs L 5 1 824), (824, zt_aload 3 825), (825, zt_callm 203 3 1 6 (601024, 7293034) 828), (828, zt_istore 6 830), (830, zt_aload 2 831), (831, zt_sld xs L 5 1 837)]
def zT_law_13 (xs : Nat → Int32) (L : Nat) : List (Nat × zT) := [(837, zt_callv 7 157 2 840), (840, zt_istore 7 842), (842, zt_aload 2 843), (843, zt_callv 7 119 1 846), (846, zt_iload 6 848), (848, zt_icmpeq 853 851), (851, zt_iconst 0 852), (852, zt_end), (853, zt_iload 6 855), (855, zt_ifne 870 858), (858, zt_aload 3 859), (859, zt_iconst 0 860), (860, zt_lald 861), (861, zt_iload 7 863), (863, zt_i2l 864), (864, zt_leq 870 868), (868, zt_iconst 0 869), (869, zt_end), (870, zt_goto 1591 []), (873, zt_aload 1 874), (874, zt_callv 6 86 1 877), (877, zt_aload 2 878), (878, zt_callv 7 165 1 881), (881, zt_icmpeq 1591 884), (884, zt_iconst 0 885), (885, zt_end), (886, zt_aload 1 887), (887, zt_sld xs L 5 1 893), (893, zt_aload 3 894), (894, zt_callm 204 3 1 6 (601024, 7293034) 897)]
def zT_law_14 (xs : Nat → Int32) (L : Nat) : List (Nat × zT) := [(897, zt_istore 6 899), (899, zt_aload 2 900), (900, zt_sld xs L 5 1 906), (906, zt_callv 7 166 2 909), (909, zt_istore 7 911), (911, zt_aload 2 912), (912, zt_callv 7 119 1 915), (915, zt_iload 6 917), (917, zt_icmpeq 922 920), (920, zt_iconst 0 921), (921, zt_end), (922, zt_iload 6 924), (924, zt_ifne 939 927), (927, zt_aload 3 928), (928, zt_iconst 0 929), (929, zt_lald 930), (930, zt_iload 7 932), (932, zt_i2l 933), (933, zt_leq 939 937), (937, zt_iconst 0 938), (938, zt_end), (939, zt_goto 1591 []), (942, zt_aload 1 943), (943, zt_sld xs L 5 1 949), (949, zt_aload 3 950), (950, zt_callm 205 3 1 6 (601024, 7293034) 953), (953, zt_istore 6 955), (955, zt_aload 2 956), (956, zt_sld xs L 5 1 962)]
def zT_law_15 (xs : Nat → Int32) (L : Nat) : List (Nat × zT) := [(962, zt_callv 7 167 2 965), (965, zt_istore 7 967), (967, zt_aload 2 968), (968, zt_callv 7 119 1 971), (971, zt_iload 6 973), (973, zt_icmpeq 978 976), (976, zt_iconst 0 977), (977, zt_end), (978, zt_iload 6 980), (980, zt_ifne 995 983), (983, zt_aload 3 984), (984, zt_iconst 0 985), (985, zt_lald 986), (986, zt_iload 7 988), (988, zt_i2l 989), (989, zt_leq 995 993), (993, zt_iconst 0 994), (994, zt_end), (995, zt_goto 1591 []), (998, zt_aload 1 999), (999, zt_callv 6 89 1 1002), (1002, zt_aload 2 1003), (1003, zt_callv 7 168 1 1006), (1006, zt_icmpeq 1591 1009), (1009, zt_iconst 0 1010), (1010, zt_end), (1011, zt_aload 1 1012), (1012, zt_sld xs L 5 1 1018), (1018, zt_aload 3 1019), (1019, zt_callm 206 3 1 6 (601024, 7293034) 1022), (1022, zt_istore 6 1024)]
def zT_law_16 (xs : Nat → Int32) (L : Nat) : List (Nat × zT) := [(1024, zt_aload 2 1025), (1025, zt_sld xs L 5 1 1031), (1031, zt_callv 7 169 2 1034), (1034, zt_istore 7 1036), (1036, zt_aload 2 1037), (1037, zt_callv 7 119 1 1040), (1040, zt_iload 6 1042), (1042, zt_icmpeq 1047 1045), (1045, zt_iconst 0 1046), (1046, zt_end), (1047, zt_iload 6 1049), (1049, zt_ifne 1064 1052), (1052, zt_aload 3 1053), (1053, zt_iconst 0 1054), (1054, zt_lald 1055), (1055, zt_iload 7 1057), (1057, zt_i2l 1058), (1058, zt_leq 1064 1062), (1062, zt_iconst 0 1063), (1063, zt_end), (1064, zt_goto 1591 []), (1067, zt_aload 1 1068), (1068, zt_sld xs L 5 1 1074), (1074, zt_aload 3 1075), (1075, zt_callm 207 3 1 6 (601024, 7293034) 1078), (1078, zt_istore 6 1080), (1080, zt_aload 2 1081), (1081, zt_sld xs L 5 1 1087), (1087, zt_callv 7 170 2 1090)]
def zT_law_17 (xs : Nat → Int32) (L : Nat) : List (Nat × zT) := [(1090, zt_istore 7 1092), (1092, zt_aload 2 1093), (1093, zt_callv 7 119 1 1096), (1096, zt_iload 6 1098), (1098, zt_icmpeq 1103 1101), (1101, zt_iconst 0 1102), (1102, zt_end), (1103, zt_iload 6 1105), (1105, zt_ifne 1120 1108), (1108, zt_aload 3 1109), (1109, zt_iconst 0 1110), (1110, zt_lald 1111), (1111, zt_iload 7 1113), (1113, zt_i2l 1114), (1114, zt_leq 1120 1118), (1118, zt_iconst 0 1119), (1119, zt_end), (1120, zt_goto 1591 []), (1123, zt_aload 1 1124), (1124, zt_sld xs L 5 1 1130), (1130, zt_sld xs L 5 2 1136), (1136, zt_aload 3 1137), (1137, zt_callm 208 4 1 6 (601024, 7293034) 1140), (1140, zt_istore 6 1142), (1142, zt_aload 2 1143), (1143, zt_sld xs L 5 1 1149), (1149, zt_sld xs L 5 2 1155)]
def zT_law_18 (xs : Nat → Int32) (L : Nat) : List (Nat × zT) := [(1155, zt_callv 7 171 3 1158), (1158, zt_istore 7 1160), (1160, zt_aload 2 1161), (1161, zt_callv 7 119 1 1164), (1164, zt_iload 6 1166), (1166, zt_icmpeq 1171 1169), (1169, zt_iconst 0 1170), (1170, zt_end), (1171, zt_iload 6 1173), (1173, zt_ifne 1188 1176), (1176, zt_aload 3 1177), (1177, zt_iconst 0 1178), (1178, zt_lald 1179), (1179, zt_iload 7 1181), (1181, zt_i2l 1182), (1182, zt_leq 1188 1186), (1186, zt_iconst 0 1187), (1187, zt_end), (1188, zt_goto 1591 []), (1191, zt_aload 1 1192), (1192, zt_sld xs L 5 1 1198), (1198, zt_aload 3 1199), (1199, zt_callm 209 3 1 6 (601024, 7293034) 1202), (1202, zt_istore 6 1204), (1204, zt_aload 2 1205), (1205, zt_sld xs L 5 1 1211), (1211, zt_callv 7 172 2 1214), (1214, zt_istore 7 1216)]
def zT_law_19 (xs : Nat → Int32) (L : Nat) : List (Nat × zT) := [(1216, zt_aload 2 1217), (1217, zt_callv 7 119 1 1220), (1220, zt_iload 6 1222), (1222, zt_icmpeq 1227 1225), (1225, zt_iconst 0 1226), (1226, zt_end), (1227, zt_iload 6 1229), (1229, zt_ifne 1244 1232), (1232, zt_aload 3 1233), (1233, zt_iconst 0 1234), (1234, zt_lald 1235), (1235, zt_iload 7 1237), (1237, zt_i2l 1238), (1238, zt_leq 1244 1242), (1242, zt_iconst 0 1243), (1243, zt_end), (1244, zt_goto 1591 []), (1247, zt_aload 1 1248), (1248, zt_callv 6 94 1 1251), (1251, zt_aload 2 1252), (1252, zt_callv 7 174 1 1255), (1255, zt_icmpeq 1591 1258), (1258, zt_iconst 0 1259), (1259, zt_end), (1260, zt_aload 1 1261), (1261, zt_aload 3 1262), (1262, zt_callm 210 2 1 6 (601024, 7293034) 1265), (1265, zt_istore 6 1267), (1267, zt_aload 2 1268), (1268, zt_callv 7 175 1 1271), (1271, zt_istore 7 1273), (1273, zt_aload 2 1274), (1274, zt_callv 7 119 1 1277), (1277, zt_iload 6 1279), (1279, zt_icmpeq 1284 1282)]
def zT_law_20 (xs : Nat → Int32) (L : Nat) : List (Nat × zT) := [(1282, zt_iconst 0 1283), (1283, zt_end), (1284, zt_iload 6 1286), (1286, zt_ifne 1301 1289), (1289, zt_aload 3 1290), (1290, zt_iconst 0 1291), (1291, zt_lald 1292), (1292, zt_iload 7 1294), (1294, zt_i2l 1295), (1295, zt_leq 1301 1299), (1299, zt_iconst 0 1300), (1300, zt_end), (1301, zt_goto 1591 []), (1304, zt_aload 1 1305), (1305, zt_callv 6 96 1 1308), (1308, zt_aload 2 1309), (1309, zt_callv 7 176 1 1312), (1312, zt_icmpeq 1591 1315), (1315, zt_iconst 0 1316), (1316, zt_end), (1317, zt_aload 1 1318), (1318, zt_sld xs L 5 1 1324), (1324, zt_aload 4 1326), (1326, zt_callm 211 3 1 6 (601024, 7293034) 1329), (1329, zt_istore 6 1331), (1331, zt_aload 2 1332), (1332, zt_sld xs L 5 1 1338), (1338, zt_callv 7 177 2 1341), (1341, zt_dstore 7 1343), (1343, zt_aload 2 1344)]
def zT_law_21 (xs : Nat → Int32) (L : Nat) : List (Nat × zT) := [(1344, zt_callv 7 119 1 1347), (1347, zt_iload 6 1349), (1349, zt_icmpeq 1354 1352), (1352, zt_iconst 0 1353), (1353, zt_end), (1354, zt_iload 6 1356), (1356, zt_ifne 1391 1359), (1359, zt_aload 4 1361), (1361, zt_iconst 0 1362), (1362, zt_dald 1363), (1363, zt_dload 7 1365), (1365, zt_dcmp .l 1366), (1366, zt_ifeq 1391 1369), (1369, zt_aload 4 1371), (1371, zt_iconst 0 1372), (1372, zt_dald 1373), (1373, zt_aload 4 1375), (1375, zt_iconst 0 1376), (1376, zt_dald 1377), (1377, zt_dcmp .l 1378), (1378, zt_ifeq 1389 1381), (1381, zt_dload 7 1383), (1383, zt_dload 7 1385), (1385, zt_dcmp .l 1386), (1386, zt_ifne 1391 1389), (1389, zt_iconst 0 1390), (1390, zt_end), (1391, zt_goto 1591 []), (1394, zt_aload 1 1395), (1395, zt_sld xs L 5 1 1401), (1401, zt_aload 3 1402), (1402, zt_callm 212 3 1 6 (601024, 7293034) 1405), (1405, zt_istore 6 1407), (1407, zt_aload 2 1408)]
def zT_law_22 (xs : Nat → Int32) (L : Nat) : List (Nat × zT) := [(1408, zt_sld xs L 5 1 1414), (1414, zt_callv 7 178 2 1417), (1417, zt_istore 7 1419), (1419, zt_aload 2 1420), (1420, zt_callv 7 119 1 1423), (1423, zt_iload 6 1425), (1425, zt_icmpeq 1430 1428), (1428, zt_iconst 0 1429), (1429, zt_end), (1430, zt_iload 6 1432), (1432, zt_ifne 1447 1435), (1435, zt_aload 3 1436), (1436, zt_iconst 0 1437), (1437, zt_lald 1438), (1438, zt_iload 7 1440), (1440, zt_i2l 1441), (1441, zt_leq 1447 1445), (1445, zt_iconst 0 1446), (1446, zt_end), (1447, zt_goto 1591 []), (1450, zt_aload 1 1451), (1451, zt_callv 6 99 1 1454), (1454, zt_aload 2 1455), (1455, zt_callv 7 179 1 1458), (1458, zt_icmpeq 1591 1461), (1461, zt_iconst 0 1462), (1462, zt_end), (1463, zt_aload 1 1464), (1464, zt_callv 6 100 1 1467), (1467, zt_aload 2 1468), (1468, zt_callv 7 186 1 1471), (1471, zt_icmpeq 1591 1474)]
def zT_law_23 (xs : Nat → Int32) (L : Nat) : List (Nat × zT) := [(1474, zt_iconst 0 1475), (1475, zt_end), (1476, zt_aload 1 1477), (1477, zt_aload 3 1478), (1478, zt_callm 213 2 1 6 (601024, 7293034) 1481), (1481, zt_istore 6 1483), (1483, zt_aload 2 1484), (1484, zt_callv 7 189 1 1487), (1487, zt_istore 7 1489), (1489, zt_aload 2 1490), (1490, zt_callv 7 119 1 1493), (1493, zt_iload 6 1495), (1495, zt_icmpeq 1500 1498), (1498, zt_iconst 0 1499), (1499, zt_end), (1500, zt_iload 6 1502), (1502, zt_ifne 1517 1505), (1505, zt_aload 3 1506), (1506, zt_iconst 0 1507), (1507, zt_lald 1508), (1508, zt_iload 7 1510), (1510, zt_i2l 1511), (1511, zt_leq 1517 1515), (1515, zt_iconst 0 1516), (1516, zt_end), (1517, zt_goto 1591 []), (1520, zt_aload 1 1521), (1521, zt_aload 3 1522), (1522, zt_callm 214 2 1 6 (601024, 7293034) 1525), (1525, zt_istore 6 1527), (1527, zt_aload 2 1528), (1528, zt_callv 7 190 1 1531), (1531, zt_istore 7 1533), (1533, zt_aload 2 1534), (1534, zt_callv 7 119 1 1537)]
def zT_law_24 (xs : Nat → Int32) (L : Nat) : List (Nat × zT) := [(1537, zt_iload 6 1539), (1539, zt_icmpeq 1544 1542), (1542, zt_iconst 0 1543), (1543, zt_end), (1544, zt_iload 6 1546), (1546, zt_ifne 1561 1549), (1549, zt_aload 3 1550), (1550, zt_iconst 0 1551), (1551, zt_lald 1552), (1552, zt_iload 7 1554), (1554, zt_i2l 1555), (1555, zt_leq 1561 1559), (1559, zt_iconst 0 1560), (1560, zt_end), (1561, zt_goto 1591 []), (1564, zt_aload 1 1565), (1565, zt_callv 6 103 1 1568), (1568, zt_aload 2 1569), (1569, zt_callv 7 191 1 1572), (1572, zt_icmpeq 1591 1575), (1575, zt_iconst 0 1576), (1576, zt_end), (1577, zt_aload 1 1578), (1578, zt_callv 6 104 1 1581), (1581, zt_aload 2 1582), (1582, zt_callv 7 192 1 1585), (1585, zt_leq 1591 1589), (1589, zt_iconst 0 1590), (1590, zt_end), (1591, zt_iinc 5 4 1594), (1594, zt_goto 28 []), (1597, zt_iconst 1 1598), (1598, zt_end)]
def zT_law (xs : Nat → Int32) (L : Nat) : List (List (Nat × zT)) := [zT_law_0 xs L, zT_law_1 xs L, zT_law_2 xs L, zT_law_3 xs L, zT_law_4 xs L, zT_law_5 xs L, zT_law_6 xs L, zT_law_7 xs L, zT_law_8 xs L, zT_law_9 xs L, zT_law_10 xs L, zT_law_11 xs L, zT_law_12 xs L, zT_law_13 xs L, zT_law_14 xs L, zT_law_15 xs L, zT_law_16 xs L, zT_law_17 xs L, zT_law_18 xs L, zT_law_19 xs L, zT_law_20 xs L, zT_law_21 xs L, zT_law_22 xs L, zT_law_23 xs L, zT_law_24 xs L]
