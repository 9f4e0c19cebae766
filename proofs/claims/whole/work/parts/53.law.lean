-- the law
def f_W_step (G : Cx) (xr mr ur : Option Nat) (s : Int32 × PH × Nat × Nat) : Option ((Int32 × PH × Nat × Nat) ⊕ PH) := if s.2.2.1 + 64 ≤ 601024 ∧ s.2.2.2 + 700 ≤ 7293034 then (if ((pj_sL G).toInt32 - (6 : Int32)) < s.1 then (some (.inr s.2.1)) else ((scr G s.1).bind fun v3 => if (v3 &&& (63 : Int32)).toInt < 0 ∨ 52 < (v3 &&& (63 : Int32)).toInt then (some (.inl ((s.1 + (6 : Int32)), s.2.1, s.2.2.1 + 64, s.2.2.2 + 700))) else (if (v3 &&& (63 : Int32)) = (0 : Int32) then ((scr G (s.1 + (1 : Int32))).bind fun v4 => (scr G (s.1 + (2 : Int32))).bind fun v5 => (scr G (s.1 + (3 : Int32))).bind fun v6 => (scr G (s.1 + (4 : Int32))).bind fun v7 => (scr G (s.1 + (5 : Int32))).bind fun v8 => (cl s.2.1 10 xr (f_T_feed s.2.1 xr v4 v5 v6 v7 v8)).bind fun v9 => (scr G (s.1 + (1 : Int32))).bind fun v10 => (scr G (s.1 + (2 : Int32))).bind fun v11 => (scr G (s.1 + (3 : Int32))).bind fun v12 => (scr G (s.1 + (4 : Int32))).bind fun v13 => (scr G (s.1 + (5 : Int32))).bind fun v14 => (cl v9.2 12 mr (f_M_feed v9.2 mr v10 v11 v12 v13 v14)).bind fun v15 => if v9.1 = v15.1 then (some (.inl ((s.1 + (6 : Int32)), v15.2, s.2.2.1 + 64, s.2.2.2 + 700))) else (none)) else (if (v3 &&& (63 : Int32)) = (1 : Int32) then ((scr G (s.1 + (1 : Int32))).bind fun v16 => (cl s.2.1 10 xr (f_T_laws s.2.1 xr v16)).bind fun v17 => (scr G (s.1 + (1 : Int32))).bind fun v18 => (cl v17.2 12 mr (f_M_laws v17.2 mr v18)).bind fun v19 => if v17.1 = v19.1 then (some (.inl ((s.1 + (6 : Int32)), v19.2, s.2.2.1 + 64, s.2.2.2 + 700))) else (none)) else (if (v3 &&& (63 : Int32)) = (2 : Int32) then ((cl s.2.1 10 xr (f_T_fault s.2.1 xr)).bind fun v20 => (cl s.2.1 12 mr (f_M_fault s.2.1 mr)).bind fun v21 => if v20 = v21.1 then (some (.inl ((s.1 + (6 : Int32)), v21.2, s.2.2.1 + 64, s.2.2.2 + 700))) else (none)) else (if (v3 &&& (63 : Int32)) = (3 : Int32) then ((cl s.2.1 10 xr (f_T_where s.2.1 xr)).bind fun v22 => (cl s.2.1 12 mr (f_M_where s.2.1 mr)).bind fun v23 => if v22 = v23.1 then (some (.inl ((s.1 + (6 : Int32)), v23.2, s.2.2.1 + 64, s.2.2.2 + 700))) else (none)) else (if (v3 &&& (63 : Int32)) = (4 : Int32) then ((scr G (s.1 + (1 : Int32))).bind fun v24 => (scr G (s.1 + (2 : Int32))).bind fun v25 => (cl s.2.1 10 xr (f_T_person s.2.1 xr v24 v25)).bind fun v26 => (scr G (s.1 + (1 : Int32))).bind fun v27 => (scr G (s.1 + (2 : Int32))).bind fun v28 => (cl v26.2 12 mr (f_M_person v26.2 mr v27 v28)).bind fun v29 => if v26.1 = v29.1 then (some (.inl ((s.1 + (6 : Int32)), v29.2, s.2.2.1 + 64, s.2.2.2 + 700))) else (none)) else (if (v3 &&& (63 : Int32)) = (5 : Int32) then ((scr G (s.1 + (1 : Int32))).bind fun v30 => (scr G (s.1 + (2 : Int32))).bind fun v31 => (cl s.2.1 10 xr (f_T_far s.2.1 xr v30 v31)).bind fun v32 => (scr G (s.1 + (1 : Int32))).bind fun v33 => (scr G (s.1 + (2 : Int32))).bind fun v34 => (cl v32.2 12 mr (f_M_far v32.2 mr v33 v34)).bind fun v35 => if v32.1 = v35.1 then (some (.inl ((s.1 + (6 : Int32)), v35.2, s.2.2.1 + 64, s.2.2.2 + 700))) else (none)) else (if (v3 &&& (63 : Int32)) = (6 : Int32) then ((scr G (s.1 + (1 : Int32))).bind fun v36 => (scr G (s.1 + (2 : Int32))).bind fun v37 => (cl s.2.1 10 xr (f_T_worth s.2.1 xr v36 v37)).bind fun v38 => (scr G (s.1 + (1 : Int32))).bind fun v39 => (scr G (s.1 + (2 : Int32))).bind fun v40 => (cl v38.2 12 mr (f_M_worth v38.2 mr v39 v40)).bind fun v41 => if v38.1 = v41.1 then (some (.inl ((s.1 + (6 : Int32)), v41.2, s.2.2.1 + 64, s.2.2.2 + 700))) else (none)) else (if (v3 &&& (63 : Int32)) = (7 : Int32) then ((scr G (s.1 + (1 : Int32))).bind fun v42 => (scr G (s.1 + (2 : Int32))).bind fun v43 => (cl s.2.1 10 xr (f_T_tax s.2.1 xr v42 v43)).bind fun v44 => (scr G (s.1 + (1 : Int32))).bind fun v45 => (scr G (s.1 + (2 : Int32))).bind fun v46 => (cl v44.2 12 mr (f_M_tax v44.2 mr v45 v46)).bind fun v47 => if v44.1 = v47.1 then (some (.inl ((s.1 + (6 : Int32)), v47.2, s.2.2.1 + 64, s.2.2.2 + 700))) else (none)) else (if (v3 &&& (63 : Int32)) = (8 : Int32) then ((scr G (s.1 + (1 : Int32))).bind fun v48 => (cl s.2.1 10 xr (f_T_chooses s.2.1 xr v48)).bind fun v49 => (scr G (s.1 + (1 : Int32))).bind fun v50 => (cl v49.2 12 mr (f_M_chooses v49.2 mr v50)).bind fun v51 => if v49.1 = v51.1 then (some (.inl ((s.1 + (6 : Int32)), v51.2, s.2.2.1 + 64, s.2.2.2 + 700))) else (none)) else (if (v3 &&& (63 : Int32)) = (9 : Int32) then ((cl s.2.1 10 xr (f_T_waverers s.2.1 xr)).bind fun v52 => (cl v52.2 12 mr (f_M_waverers v52.2 mr)).bind fun v53 => if v52.1 = v53.1 then (some (.inl ((s.1 + (6 : Int32)), v53.2, s.2.2.1 + 64, s.2.2.2 + 700))) else (none)) else (if (v3 &&& (63 : Int32)) = (10 : Int32) then ((scr G (s.1 + (1 : Int32))).bind fun v54 => (cl s.2.1 10 xr (f_T_holders s.2.1 xr v54)).bind fun v55 => (scr G (s.1 + (1 : Int32))).bind fun v56 => (cl v55.2 12 mr (f_M_holders v55.2 mr v56)).bind fun v57 => if v55.1 = v57.1 then (some (.inl ((s.1 + (6 : Int32)), v57.2, s.2.2.1 + 64, s.2.2.2 + 700))) else (none)) else (if (v3 &&& (63 : Int32)) = (11 : Int32) then ((cl s.2.1 10 xr (f_T_fashion s.2.1 xr)).bind fun v58 => (cl v58.2 12 mr (f_M_fashion v58.2 mr)).bind fun v59 => if v58.1 = v59.1 then (some (.inl ((s.1 + (6 : Int32)), v59.2, s.2.2.1 + 64, s.2.2.2 + 700))) else (none)) else (if (v3 &&& (63 : Int32)) = (12 : Int32) then ((scr G (s.1 + (1 : Int32))).bind fun v60 => (cl s.2.1 10 xr (f_T_came s.2.1 xr v60)).bind fun v61 => (scr G (s.1 + (1 : Int32))).bind fun v62 => (cl v61.2 12 mr (f_M_came v61.2 mr v62)).bind fun v63 => if v61.1 = v63.1 then (some (.inl ((s.1 + (6 : Int32)), v63.2, s.2.2.1 + 64, s.2.2.2 + 700))) else (none)) else (if (v3 &&& (63 : Int32)) = (13 : Int32) then ((cl s.2.1 10 xr (f_T_paid s.2.1 xr)).bind fun v64 => (cl v64.2 12 mr (f_M_paid v64.2 mr)).bind fun v65 => if v64.1 = v65.1 then (some (.inl ((s.1 + (6 : Int32)), v65.2, s.2.2.1 + 64, s.2.2.2 + 700))) else (none)) else (if (v3 &&& (63 : Int32)) = (14 : Int32) then ((cl s.2.1 10 xr (f_T_farthest s.2.1 xr)).bind fun v66 => (cl v66.2 12 mr (f_M_farthest v66.2 mr)).bind fun v67 => if v66.1 = v67.1 then (some (.inl ((s.1 + (6 : Int32)), v67.2, s.2.2.1 + 64, s.2.2.2 + 700))) else (none)) else (if (v3 &&& (63 : Int32)) = (15 : Int32) then ((scr G (s.1 + (1 : Int32))).bind fun v68 => (scr G (s.1 + (2 : Int32))).bind fun v69 => (scr G (s.1 + (3 : Int32))).bind fun v70 => (if v70 = 0 then (some (0 : Int32)) else (some (1 : Int32)) : Option (Int32)).bind fun j71 => (cl s.2.1 10 xr (f_T_plan s.2.1 xr v68 v69 j71)).bind fun v72 => (scr G (s.1 + (1 : Int32))).bind fun v73 => (scr G (s.1 + (2 : Int32))).bind fun v74 => (scr G (s.1 + (3 : Int32))).bind fun v75 => (if v75 = 0 then (some (0 : Int32)) else (some (1 : Int32)) : Option (Int32)).bind fun j76 => (cl v72.2 12 mr (f_M_plan v72.2 mr v73 v74 j76)).bind fun v77 => if (lg_cmp v72.1 v77.1) = 0 then (some (.inl ((s.1 + (6 : Int32)), v77.2, s.2.2.1 + 64, s.2.2.2 + 700))) else (none)) else (if (v3 &&& (63 : Int32)) = (16 : Int32) then ((scr G (s.1 + (1 : Int32))).bind fun v78 => (scr G (s.1 + (2 : Int32))).bind fun v79 => (cl s.2.1 10 xr (f_T_planFirst s.2.1 xr v78 v79)).bind fun v80 => (scr G (s.1 + (1 : Int32))).bind fun v81 => (scr G (s.1 + (2 : Int32))).bind fun v82 => (cl v80.2 12 mr (f_M_planFirst v80.2 mr v81 v82)).bind fun v83 => if v80.1 = v83.1 then (some (.inl ((s.1 + (6 : Int32)), v83.2, s.2.2.1 + 64, s.2.2.2 + 700))) else (none)) else (if (v3 &&& (63 : Int32)) = (17 : Int32) then ((scr G (s.1 + (1 : Int32))).bind fun v84 => (scr G (s.1 + (2 : Int32))).bind fun v85 => (scr G (s.1 + (3 : Int32))).bind fun v86 => (if v86 = 0 then (some (0 : Int32)) else (some (1 : Int32)) : Option (Int32)).bind fun j87 => (cl s.2.1 10 xr (f_T_stays s.2.1 xr v84 v85 j87)).bind fun v88 => (scr G (s.1 + (1 : Int32))).bind fun v89 => (scr G (s.1 + (2 : Int32))).bind fun v90 => (scr G (s.1 + (3 : Int32))).bind fun v91 => (if v91 = 0 then (some (0 : Int32)) else (some (1 : Int32)) : Option (Int32)).bind fun j92 => (cl v88.2 12 mr (f_M_stays v88.2 mr v89 v90 j92)).bind fun v93 => if (lg_cmp v88.1 v93.1) = 0 then (some (.inl ((s.1 + (6 : Int32)), v93.2, s.2.2.1 + 64, s.2.2.2 + 700))) else (none)) else (if (v3 &&& (63 : Int32)) = (18 : Int32) then ((scr G (s.1 + (1 : Int32))).bind fun v94 => (scr G (s.1 + (2 : Int32))).bind fun v95 => (scr G (s.1 + (3 : Int32))).bind fun v96 => (scr G (s.1 + (4 : Int32))).bind fun v97 => (if v97 = 0 then (some (0 : Int32)) else (some (1 : Int32)) : Option (Int32)).bind fun j98 => (cl s.2.1 10 xr (f_T_planBy s.2.1 xr v94 v95 v96 j98)).bind fun v99 => (scr G (s.1 + (1 : Int32))).bind fun v100 => (scr G (s.1 + (2 : Int32))).bind fun v101 => (scr G (s.1 + (3 : Int32))).bind fun v102 => (scr G (s.1 + (4 : Int32))).bind fun v103 => (if v103 = 0 then (some (0 : Int32)) else (some (1 : Int32)) : Option (Int32)).bind fun j104 => (cl v99.2 12 mr (f_M_planBy v99.2 mr v100 v101 v102 j104)).bind fun v105 => if (lg_cmp v99.1 v105.1) = 0 then (some (.inl ((s.1 + (6 : Int32)), v105.2, s.2.2.1 + 64, s.2.2.2 + 700))) else (none)) else (if (v3 &&& (63 : Int32)) = (19 : Int32) then ((cl s.2.1 10 xr (f_T_raised s.2.1 xr)).bind fun v106 => (cl v106.2 12 mr (f_M_raised v106.2 mr)).bind fun v107 => if v106.1 = v107.1 then (some (.inl ((s.1 + (6 : Int32)), v107.2, s.2.2.1 + 64, s.2.2.2 + 700))) else (none)) else (if (v3 &&& (63 : Int32)) = (20 : Int32) then ((cl s.2.1 10 xr (f_T_harm s.2.1 xr)).bind fun v108 => (cl v108.2 12 mr (f_M_harm v108.2 mr)).bind fun v109 => if v108.1 = v109.1 then (some (.inl ((s.1 + (6 : Int32)), v109.2, s.2.2.1 + 64, s.2.2.2 + 700))) else (none)) else (if (v3 &&& (63 : Int32)) = (21 : Int32) then ((scr G (s.1 + (1 : Int32))).bind fun v110 => (cl s.2.1 10 xr (f_T_raisedBy s.2.1 xr v110)).bind fun v111 => (scr G (s.1 + (1 : Int32))).bind fun v112 => (cl v111.2 12 mr (f_M_raisedBy v111.2 mr v112)).bind fun v113 => if v111.1 = v113.1 then (some (.inl ((s.1 + (6 : Int32)), v113.2, s.2.2.1 + 64, s.2.2.2 + 700))) else (none)) else (if (v3 &&& (63 : Int32)) = (22 : Int32) then ((scr G (s.1 + (1 : Int32))).bind fun v114 => (cl s.2.1 10 xr (f_T_harmBy s.2.1 xr v114)).bind fun v115 => (scr G (s.1 + (1 : Int32))).bind fun v116 => (cl v115.2 12 mr (f_M_harmBy v115.2 mr v116)).bind fun v117 => if v115.1 = v117.1 then (some (.inl ((s.1 + (6 : Int32)), v117.2, s.2.2.1 + 64, s.2.2.2 + 700))) else (none)) else (if (v3 &&& (63 : Int32)) = (23 : Int32) then ((cl s.2.1 10 xr (f_T_bestTable s.2.1 xr)).bind fun v118 => (cl v118.2 12 mr (f_M_bestTable v118.2 mr)).bind fun v119 => if v118.1 = v119.1 then (some (.inl ((s.1 + (6 : Int32)), v119.2, s.2.2.1 + 64, s.2.2.2 + 700))) else (none)) else (if (v3 &&& (63 : Int32)) = (24 : Int32) then ((scr G (s.1 + (1 : Int32))).bind fun v120 => (cl s.2.1 10 xr (f_T_raisedThird s.2.1 xr v120)).bind fun v121 => (scr G (s.1 + (1 : Int32))).bind fun v122 => (cl v121.2 12 mr (f_M_raisedThird v121.2 mr v122)).bind fun v123 => if v121.1 = v123.1 then (some (.inl ((s.1 + (6 : Int32)), v123.2, s.2.2.1 + 64, s.2.2.2 + 700))) else (none)) else (if (v3 &&& (63 : Int32)) = (25 : Int32) then ((scr G (s.1 + (1 : Int32))).bind fun v124 => (cl s.2.1 10 xr (f_T_harmThird s.2.1 xr v124)).bind fun v125 => (scr G (s.1 + (1 : Int32))).bind fun v126 => (cl v125.2 12 mr (f_M_harmThird v125.2 mr v126)).bind fun v127 => if v125.1 = v127.1 then (some (.inl ((s.1 + (6 : Int32)), v127.2, s.2.2.1 + 64, s.2.2.2 + 700))) else (none)) else (if (v3 &&& (63 : Int32)) = (26 : Int32) then ((cl s.2.1 10 xr (f_T_stillTable s.2.1 xr)).bind fun v128 => (cl v128.2 12 mr (f_M_stillTable v128.2 mr)).bind fun v129 => if v128.1 = v129.1 then (some (.inl ((s.1 + (6 : Int32)), v129.2, s.2.2.1 + 64, s.2.2.2 + 700))) else (none)) else (if (v3 &&& (63 : Int32)) = (27 : Int32) then ((scr G (s.1 + (1 : Int32))).bind fun v130 => (cl s.2.1 10 xr (f_T_rows s.2.1 xr v130)).bind fun v131 => (scr G (s.1 + (1 : Int32))).bind fun v132 => (cl v131.2 12 mr (f_M_rows v131.2 mr v132)).bind fun v133 => if v131.1 = v133.1 then (some (.inl ((s.1 + (6 : Int32)), v133.2, s.2.2.1 + 64, s.2.2.2 + 700))) else (none)) else (if (v3 &&& (63 : Int32)) = (28 : Int32) then ((scr G (s.1 + (1 : Int32))).bind fun v134 => (cl s.2.1 10 xr (f_T_could s.2.1 xr v134)).bind fun v135 => (scr G (s.1 + (1 : Int32))).bind fun v136 => (cl v135.2 12 mr (f_M_could v135.2 mr v136)).bind fun v137 => if v135.1 = v137.1 then (some (.inl ((s.1 + (6 : Int32)), v137.2, s.2.2.1 + 64, s.2.2.2 + 700))) else (none)) else (if (v3 &&& (63 : Int32)) = (29 : Int32) then ((scr G (s.1 + (1 : Int32))).bind fun v138 => (cl s.2.1 10 xr (f_T_surely s.2.1 xr v138)).bind fun v139 => (scr G (s.1 + (1 : Int32))).bind fun v140 => (cl v139.2 12 mr (f_M_surely v139.2 mr v140)).bind fun v141 => if v139.1 = v141.1 then (some (.inl ((s.1 + (6 : Int32)), v141.2, s.2.2.1 + 64, s.2.2.2 + 700))) else (none)) else (if (v3 &&& (63 : Int32)) = (30 : Int32) then ((scr G (s.1 + (1 : Int32))).bind fun v142 => (cl s.2.1 10 xr (f_T_firstOf s.2.1 xr v142)).bind fun v143 => (scr G (s.1 + (1 : Int32))).bind fun v144 => (cl v143.2 12 mr (f_M_firstOf v143.2 mr v144)).bind fun v145 => if v143.1 = v145.1 then (some (.inl ((s.1 + (6 : Int32)), v145.2, s.2.2.1 + 64, s.2.2.2 + 700))) else (none)) else (if (v3 &&& (63 : Int32)) = (31 : Int32) then ((cl s.2.1 10 xr (f_T_ask s.2.1 xr)).bind fun v146 => (cl v146.2 12 mr (f_M_ask v146.2 mr)).bind fun v147 => if v146.1 = v147.1 then (some (.inl ((s.1 + (6 : Int32)), v147.2, s.2.2.1 + 64, s.2.2.2 + 700))) else (none)) else (if (v3 &&& (63 : Int32)) = (32 : Int32) then ((cl s.2.1 10 xr (f_T_askLeaves s.2.1 xr)).bind fun v148 => (cl v148.2 12 mr (f_M_askLeaves v148.2 mr)).bind fun v149 => if v148.1 = v149.1 then (some (.inl ((s.1 + (6 : Int32)), v149.2, s.2.2.1 + 64, s.2.2.2 + 700))) else (none)) else (if (v3 &&& (63 : Int32)) = (33 : Int32) then ((cl s.2.1 10 xr (f_T_liar s.2.1 xr)).bind fun v150 => (cl v150.2 12 mr (f_M_liar v150.2 mr)).bind fun v151 => if v150.1 = v151.1 then (some (.inl ((s.1 + (6 : Int32)), v151.2, s.2.2.1 + 64, s.2.2.2 + 700))) else (none)) else (if (v3 &&& (63 : Int32)) = (34 : Int32) then ((scr G (s.1 + (1 : Int32))).bind fun v152 => (cl s.2.1 10 xr (f_T_caught s.2.1 xr v152)).bind fun v153 => (scr G (s.1 + (1 : Int32))).bind fun v154 => (cl v153.2 12 mr (f_M_caught v153.2 mr v154)).bind fun v155 => if v153.1 = v155.1 then (some (.inl ((s.1 + (6 : Int32)), v155.2, s.2.2.1 + 64, s.2.2.2 + 700))) else (none)) else (if (v3 &&& (63 : Int32)) = (35 : Int32) then ((scr G (s.1 + (1 : Int32))).bind fun v156 => (cl s.2.1 10 xr (f_T_places s.2.1 xr v156)).bind fun v157 => (scr G (s.1 + (1 : Int32))).bind fun v158 => (cl v157.2 12 mr (f_M_places v157.2 mr v158)).bind fun v159 => if v157.1 = v159.1 then (some (.inl ((s.1 + (6 : Int32)), v159.2, s.2.2.1 + 64, s.2.2.2 + 700))) else (none)) else (if (v3 &&& (63 : Int32)) = (36 : Int32) then ((cl s.2.1 10 xr (f_T_enough s.2.1 xr)).bind fun v160 => (cl v160.2 12 mr (f_M_enough v160.2 mr)).bind fun v161 => if v160.1 = v161.1 then (some (.inl ((s.1 + (6 : Int32)), v161.2, s.2.2.1 + 64, s.2.2.2 + 700))) else (none)) else (if (v3 &&& (63 : Int32)) = (37 : Int32) then ((scr G (s.1 + (1 : Int32))).bind fun v162 => (cl s.2.1 10 xr (f_T_catches s.2.1 xr v162)).bind fun v163 => (scr G (s.1 + (1 : Int32))).bind fun v164 => (cl v163.2 12 mr (f_M_catches v163.2 mr v164)).bind fun v165 => if v163.1 = v165.1 then (some (.inl ((s.1 + (6 : Int32)), v165.2, s.2.2.1 + 64, s.2.2.2 + 700))) else (none)) else (if (v3 &&& (63 : Int32)) = (38 : Int32) then ((scr G (s.1 + (1 : Int32))).bind fun v166 => (scr G (s.1 + (2 : Int32))).bind fun v167 => (if v167 = 0 then (some (0 : Int32)) else (some (1 : Int32)) : Option (Int32)).bind fun j168 => (scr G (s.1 + (3 : Int32))).bind fun v169 => (scr G (s.1 + (4 : Int32))).bind fun v170 => (if v170 = 0 then (some (0 : Int32)) else (some (1 : Int32)) : Option (Int32)).bind fun j171 => (scr G (s.1 + (5 : Int32))).bind fun v172 => (if v172 = 0 then (some (0 : Int32)) else (some (1 : Int32)) : Option (Int32)).bind fun j173 => (cl s.2.1 10 xr (f_T_two s.2.1 xr v166 j168 v169 j171 j173)).bind fun v174 => (scr G (s.1 + (1 : Int32))).bind fun v175 => (scr G (s.1 + (2 : Int32))).bind fun v176 => (if v176 = 0 then (some (0 : Int32)) else (some (1 : Int32)) : Option (Int32)).bind fun j177 => (scr G (s.1 + (3 : Int32))).bind fun v178 => (scr G (s.1 + (4 : Int32))).bind fun v179 => (if v179 = 0 then (some (0 : Int32)) else (some (1 : Int32)) : Option (Int32)).bind fun j180 => (scr G (s.1 + (5 : Int32))).bind fun v181 => (if v181 = 0 then (some (0 : Int32)) else (some (1 : Int32)) : Option (Int32)).bind fun j182 => (cl v174.2 12 mr (f_M_two v174.2 mr v175 j177 v178 j180 j182)).bind fun v183 => if v174.1 = v183.1 then (some (.inl ((s.1 + (6 : Int32)), v183.2, s.2.2.1 + 64, s.2.2.2 + 700))) else (none)) else (if (v3 &&& (63 : Int32)) = (39 : Int32) then ((scr G (s.1 + (1 : Int32))).bind fun v184 => (scr G (s.1 + (2 : Int32))).bind fun v185 => (cl s.2.1 10 xr (f_T_rests s.2.1 xr v184 v185)).bind fun v186 => (scr G (s.1 + (1 : Int32))).bind fun v187 => (scr G (s.1 + (2 : Int32))).bind fun v188 => (cl v186.2 12 mr (f_M_rests v186.2 mr v187 v188)).bind fun v189 => if v186.1 = v189.1 then (some (.inl ((s.1 + (6 : Int32)), v189.2, s.2.2.1 + 64, s.2.2.2 + 700))) else (none)) else (if (v3 &&& (63 : Int32)) = (40 : Int32) then ((scr G (s.1 + (1 : Int32))).bind fun v190 => (scr G (s.1 + (2 : Int32))).bind fun v191 => (cl s.2.1 10 xr (f_T_rest s.2.1 xr v190 v191)).bind fun v192 => (scr G (s.1 + (1 : Int32))).bind fun v193 => (scr G (s.1 + (2 : Int32))).bind fun v194 => (cl v192.2 12 mr (f_M_rest v192.2 mr v193 v194)).bind fun v195 => if v192.1 = v195.1 then (some (.inl ((s.1 + (6 : Int32)), v195.2, s.2.2.1 + 64, s.2.2.2 + 700))) else (none)) else (if (v3 &&& (63 : Int32)) = (41 : Int32) then ((scr G (s.1 + (1 : Int32))).bind fun v196 => (scr G (s.1 + (2 : Int32))).bind fun v197 => (cl s.2.1 10 xr (f_T_year s.2.1 xr v196 v197)).bind fun v198 => (scr G (s.1 + (1 : Int32))).bind fun v199 => (scr G (s.1 + (2 : Int32))).bind fun v200 => (cl v198.2 12 mr (f_M_year v198.2 mr v199 v200)).bind fun v201 => if v198.1 = v201.1 then (some (.inl ((s.1 + (6 : Int32)), v201.2, s.2.2.1 + 64, s.2.2.2 + 700))) else (none)) else (if (v3 &&& (63 : Int32)) = (42 : Int32) then ((scr G (s.1 + (1 : Int32))).bind fun v202 => (scr G (s.1 + (2 : Int32))).bind fun v203 => (scr G (s.1 + (3 : Int32))).bind fun v204 => (cl s.2.1 10 xr (f_T_yearHeld s.2.1 xr v202 v203 v204)).bind fun v205 => (scr G (s.1 + (1 : Int32))).bind fun v206 => (scr G (s.1 + (2 : Int32))).bind fun v207 => (scr G (s.1 + (3 : Int32))).bind fun v208 => (cl v205.2 12 mr (f_M_yearHeld v205.2 mr v206 v207 v208)).bind fun v209 => if v205.1 = v209.1 then (some (.inl ((s.1 + (6 : Int32)), v209.2, s.2.2.1 + 64, s.2.2.2 + 700))) else (none)) else (if (v3 &&& (63 : Int32)) = (43 : Int32) then ((scr G (s.1 + (1 : Int32))).bind fun v210 => (scr G (s.1 + (2 : Int32))).bind fun v211 => (cl s.2.1 10 xr (f_T_yearChanges s.2.1 xr v210 v211)).bind fun v212 => (scr G (s.1 + (1 : Int32))).bind fun v213 => (scr G (s.1 + (2 : Int32))).bind fun v214 => (cl v212.2 12 mr (f_M_yearChanges v212.2 mr v213 v214)).bind fun v215 => if v212.1 = v215.1 then (some (.inl ((s.1 + (6 : Int32)), v215.2, s.2.2.1 + 64, s.2.2.2 + 700))) else (none)) else (if (v3 &&& (63 : Int32)) = (44 : Int32) then ((scr G (s.1 + (1 : Int32))).bind fun v216 => (scr G (s.1 + (2 : Int32))).bind fun v217 => (cl s.2.1 10 xr (f_T_change s.2.1 xr v216 v217)).bind fun v218 => (scr G (s.1 + (1 : Int32))).bind fun v219 => (scr G (s.1 + (2 : Int32))).bind fun v220 => (cl v218.2 12 mr (f_M_change v218.2 mr v219 v220)).bind fun v221 => if v218.1 = v221.1 then (some (.inl ((s.1 + (6 : Int32)), v221.2, s.2.2.1 + 64, s.2.2.2 + 700))) else (none)) else (if (v3 &&& (63 : Int32)) = (45 : Int32) then ((scr G (s.1 + (1 : Int32))).bind fun v222 => (cl s.2.1 10 xr (f_T_hours s.2.1 xr v222)).bind fun v223 => (scr G (s.1 + (1 : Int32))).bind fun v224 => (cl v223.2 12 mr (f_M_hours v223.2 mr v224)).bind fun v225 => if v223.1 = v225.1 then (some (.inl ((s.1 + (6 : Int32)), v225.2, s.2.2.1 + 64, s.2.2.2 + 700))) else (none)) else (if (v3 &&& (63 : Int32)) = (46 : Int32) then ((scr G (s.1 + (1 : Int32))).bind fun v226 => (cl s.2.1 10 xr (f_T_seed s.2.1 xr v226)).bind fun v227 => (scr G (s.1 + (1 : Int32))).bind fun v228 => (cl v227.2 12 mr (f_M_seed v227.2 mr v228)).bind fun v229 => if v227.1 = v229.1 then (some (.inl ((s.1 + (6 : Int32)), v229.2, s.2.2.1 + 64, s.2.2.2 + 700))) else (none)) else (if (v3 &&& (63 : Int32)) = (47 : Int32) then ((cl s.2.1 10 xr (f_T_undo s.2.1 xr)).bind fun v230 => (cl v230.2 12 mr (f_M_undo v230.2 mr)).bind fun v231 => if v230.1 = v231.1 then (some (.inl ((s.1 + (6 : Int32)), v231.2, s.2.2.1 + 64, s.2.2.2 + 700))) else (none)) else (if (v3 &&& (63 : Int32)) = (48 : Int32) then ((cl s.2.1 10 xr (f_T_mark s.2.1 xr)).bind fun v232 => (cl v232.2 12 mr (f_M_mark v232.2 mr)).bind fun v233 => if v232.1 = v233.1 then (some (.inl ((s.1 + (6 : Int32)), v233.2, s.2.2.1 + 64, s.2.2.2 + 700))) else (none)) else (if (v3 &&& (63 : Int32)) = (49 : Int32) then ((scr G (s.1 + (1 : Int32))).bind fun v234 => (cl s.2.1 10 xr (f_T_back s.2.1 xr v234)).bind fun v235 => (scr G (s.1 + (1 : Int32))).bind fun v236 => (cl v235.2 12 mr (f_M_back v235.2 mr v236)).bind fun v237 => if v235.1 = v237.1 then (some (.inl ((s.1 + (6 : Int32)), v237.2, s.2.2.1 + 64, s.2.2.2 + 700))) else (none)) else (if (v3 &&& (63 : Int32)) = (50 : Int32) then ((scr G (s.1 + (1 : Int32))).bind fun v238 => (f_W_led s.2.1 xr v238 ur).bind fun v239 => (scr G (s.1 + (1 : Int32))).bind fun v240 => (cl v239.2 12 mr (f_M_led v239.2 mr v240)).bind fun v241 => (cl v241.2 12 mr (f_M_thrown v241.2 mr)).bind fun v242 => if v242 = v239.1 then (if ¬ v239.1 = 0 then (some (.inl ((s.1 + (6 : Int32)), v241.2, s.2.2.1 + 64, s.2.2.2 + 700))) else ((aL v241.2 ur (0 : Int32)).bind fun v243 => if (lg_cmp v243 (Int32.toInt64 v241.1)) = 0 then (some (.inl ((s.1 + (6 : Int32)), v241.2, s.2.2.1 + 64, s.2.2.2 + 700))) else (none))) else (none)) else (if (v3 &&& (63 : Int32)) = (51 : Int32) then ((scr G (s.1 + (1 : Int32))).bind fun v244 => (cl s.2.1 10 xr (f_T_size s.2.1 xr v244)).bind fun v245 => (scr G (s.1 + (1 : Int32))).bind fun v246 => (cl s.2.1 12 mr (f_M_size s.2.1 mr v246)).bind fun v247 => if v245 = v247.1 then (some (.inl ((s.1 + (6 : Int32)), v247.2, s.2.2.1 + 64, s.2.2.2 + 700))) else (none)) else (if (v3 &&& (63 : Int32)) = (52 : Int32) then ((cl s.2.1 10 xr (f_T_trouble s.2.1 xr)).bind fun v248 => (cl s.2.1 12 mr (f_M_trouble s.2.1 mr)).bind fun v249 => if v248 = v249.1 then (some (.inl ((s.1 + (6 : Int32)), v249.2, s.2.2.1 + 64, s.2.2.2 + 700))) else (none)) else (none)))))))))))))))))))))))))))))))))))))))))))))))))))))))) else none
def f_W_law (G : Cx) (h : PH) : Option Int32 := (f_T_init (h ++ [(10, pj_new 10)]) (some (h).length)).bind fun h1 => (f_M_init (h1 ++ [(12, pj_new 12)]) (some (h1).length)).bind fun h2 => (pj_it (X := PH) (f_W_step G (some (h).length) (some (h1).length) (some (h2).length)) FU ((0 : Int32), (h2 ++ [(51, List.replicate 1 (.inr (.inl 0)))]), 196, 9394)).bind fun x => some (1 : Int32)
theorem PJ.gd {l : Launch} {G : Cx} {R : Room} {Y : MI} {pc : Nat} {L : List (Option PV)} {st : List PV} {h : PH} {k n : Nat} {X : Type} {Ψ : X → MT → (State → Prop) → Prop} {o : Option X} {c : Prop} [Decidable c] (kk : c → PJ l G R Y pc L st h k n o Ψ) : PJ l G R Y pc L st h k n (if c then o else none) Ψ := by
  by_cases hc : c
  · rw [if_pos hc]; exact kk hc
  · rw [if_neg hc]; exact PJ.nn
theorem lw_fit {Y1 : MI} {d mc ms k n : Nat} (a : d + 1 ≤ 2048) (b : 8 + (Y1.2.2.1 + 11) + 64 * d ≤ 84000) (e : k + mc ≤ 601024) (f : n + ms ≤ 7293034) : pj_fit room_1 Y1 d mc ms k n := ⟨a, b, e, f⟩
set_option maxRecDepth 20000 in
set_option maxHeartbeats 4000000 in
theorem PJ_W_step {l : Launch} {G : Cx} (hled : ∀ h a0 a1 a2 z, f_W_led h a0 a1 a2 = some z → PMW l G 20 1 6 Y_W_led [(0, 9, 12, 13)] [.inr (.inr a0), .inl a1, .inr (.inr a2)] h (some (.inl z.1), z.2)) {xr mr ur : Option Nat} (s : Int32 × PH × Nat × Nat) : PJ l G room_1 Y_W_law 23 [some (.inr (.inr (some 49))), some (.inr (.inr xr)), some (.inr (.inr mr)), some (.inr (.inr ur)), some (.inl s.1), none, none] [] s.2.1 s.2.2.1 s.2.2.2 (f_W_step G xr mr ur s) (AT l G room_1 Y_W_law.2.2.1 (pj_E2 (fun s : Int32 × PH × Nat × Nat => ((23 : Nat), ([some (.inr (.inr (some 49))), some (.inr (.inr xr)), some (.inr (.inr mr)), some (.inr (.inr ur)), some (.inl s.1), none, none] : List (Option PV)), ([] : List PV), (s.2.1 : PH), (s.2.2.1 : Nat), (s.2.2.2 : Nat))) (fun x : PH => ((1849 : Nat), ([none, none, none, none, none, none, none] : List (Option PV)), ([] : List PV), (x : PH), (601024 : Nat), (7293034 : Nat))))) := by
  unfold f_W_step
  refine PJ.gd (fun hg9 => ?_)
  refine PJ.iload (pc := 23) d_W_law_23 rfl ?_
  refine PJ.aload_n (pc := 25) d_W_law_25 rfl ?_
  refine PJ.sln (pc := 26) d_W_law_26 ?_
  refine PJ.bipush (pc := 27) (v := 6) d_W_law_27 (by decide) ?_
  refine PJ.isub (pc := 29) d_W_law_29 ?_
  refine PJ.icmp_gt (pc := 30) (tgt := 1849) d_W_law_30 (by decide) (fun _ => ?_) (fun _ => ?_)
  · refine PJ.mk (L1 := [none, none, none, none, none, none, none]) [false, false, false, false, false, false, false] rfl ?_
    refine PJ.wid 601024 7293034 (by omega) (by omega) ?_
    exact PJ.done rfl
  · refine PJ.aload_n (pc := 33) d_W_law_33 rfl ?_
    refine PJ.iload (pc := 34) d_W_law_34 rfl ?_
    refine PJ.sld (pc := 36) d_W_law_36 (fun v3 => ?_)
    refine PJ.bipush (pc := 37) (v := 63) d_W_law_37 (by decide) ?_
    refine PJ.iand (pc := 39) d_W_law_39 ?_
    refine PJ.swo (pc := 40) (tgt := 1843) d_W_law_40 (by decide) (fun _ => ?_) (fun _ => ?_)
    · refine PJ.iinc (pc := 1843) (v := 6) (L1 := [some (.inr (.inr (some 49))), some (.inr (.inr xr)), some (.inr (.inr mr)), some (.inr (.inr ur)), some (.inl (s.1 + (6 : Int32))), none, none]) d_W_law_1843 rfl (by decide) (Nat.le_of_ble_eq_true rfl) rfl rfl ?_
      refine PJ.goto (pc := 1846) (tgt := 23) d_W_law_1846 (by decide) ?_
      refine PJ.wid (s.2.2.1 + 64) (s.2.2.2 + 700) (by omega) (by omega) ?_
      exact PJ.done rfl
    · refine PJ.swc (pc := 40) (tgt := 268) (off := 228) (0 : Int32) d_W_law_40 (by decide +kernel) (by decide +kernel) (by decide +kernel) (by decide) (fun _ => ?_) (fun _ => ?_)
      · refine PJ.aload_n (pc := 268) d_W_law_268 rfl ?_
        refine PJ.aload_n (pc := 269) d_W_law_269 rfl ?_
        refine PJ.iload (pc := 270) d_W_law_270 rfl ?_
        refine PJ.iconst (pc := 272) (v := 1) d_W_law_272 (by decide) ?_
        refine PJ.iadd (pc := 273) d_W_law_273 ?_
        refine PJ.sld (pc := 274) d_W_law_274 (fun v4 => ?_)
        refine PJ.aload_n (pc := 275) d_W_law_275 rfl ?_
        refine PJ.iload (pc := 276) d_W_law_276 rfl ?_
        refine PJ.iconst (pc := 278) (v := 2) d_W_law_278 (by decide) ?_
        refine PJ.iadd (pc := 279) d_W_law_279 ?_
        refine PJ.sld (pc := 280) d_W_law_280 (fun v5 => ?_)
        refine PJ.aload_n (pc := 281) d_W_law_281 rfl ?_
        refine PJ.iload (pc := 282) d_W_law_282 rfl ?_
        refine PJ.iconst (pc := 284) (v := 3) d_W_law_284 (by decide) ?_
        refine PJ.iadd (pc := 285) d_W_law_285 ?_
        refine PJ.sld (pc := 286) d_W_law_286 (fun v6 => ?_)
        refine PJ.aload_n (pc := 287) d_W_law_287 rfl ?_
        refine PJ.iload (pc := 288) d_W_law_288 rfl ?_
        refine PJ.iconst (pc := 290) (v := 4) d_W_law_290 (by decide) ?_
        refine PJ.iadd (pc := 291) d_W_law_291 ?_
        refine PJ.sld (pc := 292) d_W_law_292 (fun v7 => ?_)
        refine PJ.aload_n (pc := 293) d_W_law_293 rfl ?_
        refine PJ.iload (pc := 294) d_W_law_294 rfl ?_
        refine PJ.iconst (pc := 296) (v := 5) d_W_law_296 (by decide) ?_
        refine PJ.iadd (pc := 297) d_W_law_297 ?_
        refine PJ.sld (pc := 298) d_W_law_298 (fun v8 => ?_)
        refine PJ.cVI (pc := 299) cs_W_19 (fun z hz => PM_T_feed hz) (lw_fit (Nat.le_of_ble_eq_true rfl) (Nat.le_of_ble_eq_true rfl) (by omega) (by omega)) rfl rfl (Nat.le_of_ble_eq_true rfl) d_W_law_299 (fun v9 => ?_)
        refine PJ.aload_n (pc := 302) d_W_law_302 rfl ?_
        refine PJ.aload_n (pc := 303) d_W_law_303 rfl ?_
        refine PJ.iload (pc := 304) d_W_law_304 rfl ?_
        refine PJ.iconst (pc := 306) (v := 1) d_W_law_306 (by decide) ?_
        refine PJ.iadd (pc := 307) d_W_law_307 ?_
        refine PJ.sld (pc := 308) d_W_law_308 (fun v10 => ?_)
        refine PJ.aload_n (pc := 309) d_W_law_309 rfl ?_
        refine PJ.iload (pc := 310) d_W_law_310 rfl ?_
        refine PJ.iconst (pc := 312) (v := 2) d_W_law_312 (by decide) ?_
        refine PJ.iadd (pc := 313) d_W_law_313 ?_
        refine PJ.sld (pc := 314) d_W_law_314 (fun v11 => ?_)
        refine PJ.aload_n (pc := 315) d_W_law_315 rfl ?_
        refine PJ.iload (pc := 316) d_W_law_316 rfl ?_
        refine PJ.iconst (pc := 318) (v := 3) d_W_law_318 (by decide) ?_
        refine PJ.iadd (pc := 319) d_W_law_319 ?_
        refine PJ.sld (pc := 320) d_W_law_320 (fun v12 => ?_)
        refine PJ.aload_n (pc := 321) d_W_law_321 rfl ?_
        refine PJ.iload (pc := 322) d_W_law_322 rfl ?_
        refine PJ.iconst (pc := 324) (v := 4) d_W_law_324 (by decide) ?_
        refine PJ.iadd (pc := 325) d_W_law_325 ?_
        refine PJ.sld (pc := 326) d_W_law_326 (fun v13 => ?_)
        refine PJ.aload_n (pc := 327) d_W_law_327 rfl ?_
        refine PJ.iload (pc := 328) d_W_law_328 rfl ?_
        refine PJ.iconst (pc := 330) (v := 5) d_W_law_330 (by decide) ?_
        refine PJ.iadd (pc := 331) d_W_law_331 ?_
        refine PJ.sld (pc := 332) d_W_law_332 (fun v14 => ?_)
        refine PJ.cVI (pc := 333) cs_W_23 (fun z hz => PM_M_feed hz) (lw_fit (Nat.le_of_ble_eq_true rfl) (Nat.le_of_ble_eq_true rfl) (by omega) (by omega)) rfl rfl (Nat.le_of_ble_eq_true rfl) d_W_law_333 (fun v15 => ?_)
        refine PJ.icmp_eq (pc := 336) (tgt := 1843) d_W_law_336 (by decide) (fun _ => ?_) (fun _ => ?_)
        · refine PJ.iinc (pc := 1843) (v := 6) (L1 := [some (.inr (.inr (some 49))), some (.inr (.inr xr)), some (.inr (.inr mr)), some (.inr (.inr ur)), some (.inl (s.1 + (6 : Int32))), none, none]) d_W_law_1843 rfl (by decide) (Nat.le_of_ble_eq_true rfl) rfl rfl ?_
          refine PJ.goto (pc := 1846) (tgt := 23) d_W_law_1846 (by decide) ?_
          refine PJ.wid (s.2.2.1 + 64) (s.2.2.2 + 700) (by omega) (by omega) ?_
          exact PJ.done rfl
        · exact PJ.nn
      · refine PJ.swc (pc := 40) (tgt := 341) (off := 301) (1 : Int32) d_W_law_40 (by decide +kernel) (by decide +kernel) (by decide +kernel) (by decide) (fun _ => ?_) (fun _ => ?_)
        · refine PJ.aload_n (pc := 341) d_W_law_341 rfl ?_
          refine PJ.aload_n (pc := 342) d_W_law_342 rfl ?_
          refine PJ.iload (pc := 343) d_W_law_343 rfl ?_
          refine PJ.iconst (pc := 345) (v := 1) d_W_law_345 (by decide) ?_
          refine PJ.iadd (pc := 346) d_W_law_346 ?_
          refine PJ.sld (pc := 347) d_W_law_347 (fun v16 => ?_)
          refine PJ.cVI (pc := 348) cs_W_24 (fun z hz => PM_T_laws hz) (lw_fit (Nat.le_of_ble_eq_true rfl) (Nat.le_of_ble_eq_true rfl) (by omega) (by omega)) rfl rfl (Nat.le_of_ble_eq_true rfl) d_W_law_348 (fun v17 => ?_)
          refine PJ.aload_n (pc := 351) d_W_law_351 rfl ?_
          refine PJ.aload_n (pc := 352) d_W_law_352 rfl ?_
          refine PJ.iload (pc := 353) d_W_law_353 rfl ?_
          refine PJ.iconst (pc := 355) (v := 1) d_W_law_355 (by decide) ?_
          refine PJ.iadd (pc := 356) d_W_law_356 ?_
          refine PJ.sld (pc := 357) d_W_law_357 (fun v18 => ?_)
          refine PJ.cVIx (pc := 358) cs_W_27 (fun z hz => PM_M_laws hz) (lw_fit (Nat.le_of_ble_eq_true rfl) (Nat.le_of_ble_eq_true rfl) (by omega) (by omega)) rfl rfl (Nat.le_of_ble_eq_true rfl) d_W_law_358 (fun v19 => ?_)
          refine PJ.icmp_eq (pc := 361) (tgt := 1843) d_W_law_361 (by decide) (fun _ => ?_) (fun _ => ?_)
          · refine PJ.iinc (pc := 1843) (v := 6) (L1 := [some (.inr (.inr (some 49))), some (.inr (.inr xr)), some (.inr (.inr mr)), some (.inr (.inr ur)), some (.inl (s.1 + (6 : Int32))), none, none]) d_W_law_1843 rfl (by decide) (Nat.le_of_ble_eq_true rfl) rfl rfl ?_
            refine PJ.goto (pc := 1846) (tgt := 23) d_W_law_1846 (by decide) ?_
            refine PJ.wid (s.2.2.1 + 64) (s.2.2.2 + 700) (by omega) (by omega) ?_
            exact PJ.done rfl
          · exact PJ.nn
        · refine PJ.swc (pc := 40) (tgt := 366) (off := 326) (2 : Int32) d_W_law_40 (by decide +kernel) (by decide +kernel) (by decide +kernel) (by decide) (fun _ => ?_) (fun _ => ?_)
          · refine PJ.aload_n (pc := 366) d_W_law_366 rfl ?_
            refine PJ.cVpI (pc := 367) cs_W_28 (fun z hz => PM_T_fault hz) (lw_fit (Nat.le_of_ble_eq_true rfl) (Nat.le_of_ble_eq_true rfl) (by omega) (by omega)) rfl rfl (Nat.le_of_ble_eq_true rfl) d_W_law_367 (fun v20 => ?_)
            refine PJ.aload_n (pc := 370) d_W_law_370 rfl ?_
            refine PJ.cVI (pc := 371) cs_W_32 (fun z hz => PM_M_fault hz) (lw_fit (Nat.le_of_ble_eq_true rfl) (Nat.le_of_ble_eq_true rfl) (by omega) (by omega)) rfl rfl (Nat.le_of_ble_eq_true rfl) d_W_law_371 (fun v21 => ?_)
            refine PJ.icmp_eq (pc := 374) (tgt := 1843) d_W_law_374 (by decide) (fun _ => ?_) (fun _ => ?_)
            · refine PJ.iinc (pc := 1843) (v := 6) (L1 := [some (.inr (.inr (some 49))), some (.inr (.inr xr)), some (.inr (.inr mr)), some (.inr (.inr ur)), some (.inl (s.1 + (6 : Int32))), none, none]) d_W_law_1843 rfl (by decide) (Nat.le_of_ble_eq_true rfl) rfl rfl ?_
              refine PJ.goto (pc := 1846) (tgt := 23) d_W_law_1846 (by decide) ?_
              refine PJ.wid (s.2.2.1 + 64) (s.2.2.2 + 700) (by omega) (by omega) ?_
              exact PJ.done rfl
            · exact PJ.nn
          · refine PJ.swc (pc := 40) (tgt := 379) (off := 339) (3 : Int32) d_W_law_40 (by decide +kernel) (by decide +kernel) (by decide +kernel) (by decide) (fun _ => ?_) (fun _ => ?_)
            · refine PJ.aload_n (pc := 379) d_W_law_379 rfl ?_
              refine PJ.cVpI (pc := 380) cs_W_33 (fun z hz => PM_T_where hz) (lw_fit (Nat.le_of_ble_eq_true rfl) (Nat.le_of_ble_eq_true rfl) (by omega) (by omega)) rfl rfl (Nat.le_of_ble_eq_true rfl) d_W_law_380 (fun v22 => ?_)
              refine PJ.aload_n (pc := 383) d_W_law_383 rfl ?_
              refine PJ.cVI (pc := 384) cs_W_36 (fun z hz => PM_M_where hz) (lw_fit (Nat.le_of_ble_eq_true rfl) (Nat.le_of_ble_eq_true rfl) (by omega) (by omega)) rfl rfl (Nat.le_of_ble_eq_true rfl) d_W_law_384 (fun v23 => ?_)
              refine PJ.icmp_eq (pc := 387) (tgt := 1843) d_W_law_387 (by decide) (fun _ => ?_) (fun _ => ?_)
              · refine PJ.iinc (pc := 1843) (v := 6) (L1 := [some (.inr (.inr (some 49))), some (.inr (.inr xr)), some (.inr (.inr mr)), some (.inr (.inr ur)), some (.inl (s.1 + (6 : Int32))), none, none]) d_W_law_1843 rfl (by decide) (Nat.le_of_ble_eq_true rfl) rfl rfl ?_
                refine PJ.goto (pc := 1846) (tgt := 23) d_W_law_1846 (by decide) ?_
                refine PJ.wid (s.2.2.1 + 64) (s.2.2.2 + 700) (by omega) (by omega) ?_
                exact PJ.done rfl
              · exact PJ.nn
            · refine PJ.swc (pc := 40) (tgt := 392) (off := 352) (4 : Int32) d_W_law_40 (by decide +kernel) (by decide +kernel) (by decide +kernel) (by decide) (fun _ => ?_) (fun _ => ?_)
              · refine PJ.aload_n (pc := 392) d_W_law_392 rfl ?_
                refine PJ.aload_n (pc := 393) d_W_law_393 rfl ?_
                refine PJ.iload (pc := 394) d_W_law_394 rfl ?_
                refine PJ.iconst (pc := 396) (v := 1) d_W_law_396 (by decide) ?_
                refine PJ.iadd (pc := 397) d_W_law_397 ?_
                refine PJ.sld (pc := 398) d_W_law_398 (fun v24 => ?_)
                refine PJ.aload_n (pc := 399) d_W_law_399 rfl ?_
                refine PJ.iload (pc := 400) d_W_law_400 rfl ?_
                refine PJ.iconst (pc := 402) (v := 2) d_W_law_402 (by decide) ?_
                refine PJ.iadd (pc := 403) d_W_law_403 ?_
                refine PJ.sld (pc := 404) d_W_law_404 (fun v25 => ?_)
                refine PJ.cVI (pc := 405) cs_W_37 (fun z hz => PM_T_person hz) (lw_fit (Nat.le_of_ble_eq_true rfl) (Nat.le_of_ble_eq_true rfl) (by omega) (by omega)) rfl rfl (Nat.le_of_ble_eq_true rfl) d_W_law_405 (fun v26 => ?_)
                refine PJ.aload_n (pc := 408) d_W_law_408 rfl ?_
                refine PJ.aload_n (pc := 409) d_W_law_409 rfl ?_
                refine PJ.iload (pc := 410) d_W_law_410 rfl ?_
                refine PJ.iconst (pc := 412) (v := 1) d_W_law_412 (by decide) ?_
                refine PJ.iadd (pc := 413) d_W_law_413 ?_
                refine PJ.sld (pc := 414) d_W_law_414 (fun v27 => ?_)
                refine PJ.aload_n (pc := 415) d_W_law_415 rfl ?_
                refine PJ.iload (pc := 416) d_W_law_416 rfl ?_
                refine PJ.iconst (pc := 418) (v := 2) d_W_law_418 (by decide) ?_
                refine PJ.iadd (pc := 419) d_W_law_419 ?_
                refine PJ.sld (pc := 420) d_W_law_420 (fun v28 => ?_)
                refine PJ.cVI (pc := 421) cs_W_41 (fun z hz => PM_M_person hz) (lw_fit (Nat.le_of_ble_eq_true rfl) (Nat.le_of_ble_eq_true rfl) (by omega) (by omega)) rfl rfl (Nat.le_of_ble_eq_true rfl) d_W_law_421 (fun v29 => ?_)
                refine PJ.icmp_eq (pc := 424) (tgt := 1843) d_W_law_424 (by decide) (fun _ => ?_) (fun _ => ?_)
                · refine PJ.iinc (pc := 1843) (v := 6) (L1 := [some (.inr (.inr (some 49))), some (.inr (.inr xr)), some (.inr (.inr mr)), some (.inr (.inr ur)), some (.inl (s.1 + (6 : Int32))), none, none]) d_W_law_1843 rfl (by decide) (Nat.le_of_ble_eq_true rfl) rfl rfl ?_
                  refine PJ.goto (pc := 1846) (tgt := 23) d_W_law_1846 (by decide) ?_
                  refine PJ.wid (s.2.2.1 + 64) (s.2.2.2 + 700) (by omega) (by omega) ?_
                  exact PJ.done rfl
                · exact PJ.nn
              · refine PJ.swc (pc := 40) (tgt := 429) (off := 389) (5 : Int32) d_W_law_40 (by decide +kernel) (by decide +kernel) (by decide +kernel) (by decide) (fun _ => ?_) (fun _ => ?_)
                · refine PJ.aload_n (pc := 429) d_W_law_429 rfl ?_
                  refine PJ.aload_n (pc := 430) d_W_law_430 rfl ?_
                  refine PJ.iload (pc := 431) d_W_law_431 rfl ?_
                  refine PJ.iconst (pc := 433) (v := 1) d_W_law_433 (by decide) ?_
                  refine PJ.iadd (pc := 434) d_W_law_434 ?_
                  refine PJ.sld (pc := 435) d_W_law_435 (fun v30 => ?_)
                  refine PJ.aload_n (pc := 436) d_W_law_436 rfl ?_
                  refine PJ.iload (pc := 437) d_W_law_437 rfl ?_
                  refine PJ.iconst (pc := 439) (v := 2) d_W_law_439 (by decide) ?_
                  refine PJ.iadd (pc := 440) d_W_law_440 ?_
                  refine PJ.sld (pc := 441) d_W_law_441 (fun v31 => ?_)
                  refine PJ.cVI (pc := 442) cs_W_42 (fun z hz => PM_T_far hz) (lw_fit (Nat.le_of_ble_eq_true rfl) (Nat.le_of_ble_eq_true rfl) (by omega) (by omega)) rfl rfl (Nat.le_of_ble_eq_true rfl) d_W_law_442 (fun v32 => ?_)
                  refine PJ.aload_n (pc := 445) d_W_law_445 rfl ?_
                  refine PJ.aload_n (pc := 446) d_W_law_446 rfl ?_
                  refine PJ.iload (pc := 447) d_W_law_447 rfl ?_
                  refine PJ.iconst (pc := 449) (v := 1) d_W_law_449 (by decide) ?_
                  refine PJ.iadd (pc := 450) d_W_law_450 ?_
                  refine PJ.sld (pc := 451) d_W_law_451 (fun v33 => ?_)
                  refine PJ.aload_n (pc := 452) d_W_law_452 rfl ?_
                  refine PJ.iload (pc := 453) d_W_law_453 rfl ?_
                  refine PJ.iconst (pc := 455) (v := 2) d_W_law_455 (by decide) ?_
                  refine PJ.iadd (pc := 456) d_W_law_456 ?_
                  refine PJ.sld (pc := 457) d_W_law_457 (fun v34 => ?_)
                  refine PJ.cVI (pc := 458) cs_W_45 (fun z hz => PM_M_far hz) (lw_fit (Nat.le_of_ble_eq_true rfl) (Nat.le_of_ble_eq_true rfl) (by omega) (by omega)) rfl rfl (Nat.le_of_ble_eq_true rfl) d_W_law_458 (fun v35 => ?_)
                  refine PJ.icmp_eq (pc := 461) (tgt := 1843) d_W_law_461 (by decide) (fun _ => ?_) (fun _ => ?_)
                  · refine PJ.iinc (pc := 1843) (v := 6) (L1 := [some (.inr (.inr (some 49))), some (.inr (.inr xr)), some (.inr (.inr mr)), some (.inr (.inr ur)), some (.inl (s.1 + (6 : Int32))), none, none]) d_W_law_1843 rfl (by decide) (Nat.le_of_ble_eq_true rfl) rfl rfl ?_
                    refine PJ.goto (pc := 1846) (tgt := 23) d_W_law_1846 (by decide) ?_
                    refine PJ.wid (s.2.2.1 + 64) (s.2.2.2 + 700) (by omega) (by omega) ?_
                    exact PJ.done rfl
                  · exact PJ.nn
                · refine PJ.swc (pc := 40) (tgt := 466) (off := 426) (6 : Int32) d_W_law_40 (by decide +kernel) (by decide +kernel) (by decide +kernel) (by decide) (fun _ => ?_) (fun _ => ?_)
                  · refine PJ.aload_n (pc := 466) d_W_law_466 rfl ?_
                    refine PJ.aload_n (pc := 467) d_W_law_467 rfl ?_
                    refine PJ.iload (pc := 468) d_W_law_468 rfl ?_
                    refine PJ.iconst (pc := 470) (v := 1) d_W_law_470 (by decide) ?_
                    refine PJ.iadd (pc := 471) d_W_law_471 ?_
                    refine PJ.sld (pc := 472) d_W_law_472 (fun v36 => ?_)
                    refine PJ.aload_n (pc := 473) d_W_law_473 rfl ?_
                    refine PJ.iload (pc := 474) d_W_law_474 rfl ?_
                    refine PJ.iconst (pc := 476) (v := 2) d_W_law_476 (by decide) ?_
                    refine PJ.iadd (pc := 477) d_W_law_477 ?_
                    refine PJ.sld (pc := 478) d_W_law_478 (fun v37 => ?_)
                    refine PJ.cVI (pc := 479) cs_W_46 (fun z hz => PM_T_worth hz) (lw_fit (Nat.le_of_ble_eq_true rfl) (Nat.le_of_ble_eq_true rfl) (by omega) (by omega)) rfl rfl (Nat.le_of_ble_eq_true rfl) d_W_law_479 (fun v38 => ?_)
                    refine PJ.aload_n (pc := 482) d_W_law_482 rfl ?_
                    refine PJ.aload_n (pc := 483) d_W_law_483 rfl ?_
                    refine PJ.iload (pc := 484) d_W_law_484 rfl ?_
                    refine PJ.iconst (pc := 486) (v := 1) d_W_law_486 (by decide) ?_
                    refine PJ.iadd (pc := 487) d_W_law_487 ?_
                    refine PJ.sld (pc := 488) d_W_law_488 (fun v39 => ?_)
                    refine PJ.aload_n (pc := 489) d_W_law_489 rfl ?_
                    refine PJ.iload (pc := 490) d_W_law_490 rfl ?_
                    refine PJ.iconst (pc := 492) (v := 2) d_W_law_492 (by decide) ?_
                    refine PJ.iadd (pc := 493) d_W_law_493 ?_
                    refine PJ.sld (pc := 494) d_W_law_494 (fun v40 => ?_)
                    refine PJ.cVI (pc := 495) cs_W_49 (fun z hz => PM_M_worth hz) (lw_fit (Nat.le_of_ble_eq_true rfl) (Nat.le_of_ble_eq_true rfl) (by omega) (by omega)) rfl rfl (Nat.le_of_ble_eq_true rfl) d_W_law_495 (fun v41 => ?_)
                    refine PJ.icmp_eq (pc := 498) (tgt := 1843) d_W_law_498 (by decide) (fun _ => ?_) (fun _ => ?_)
                    · refine PJ.iinc (pc := 1843) (v := 6) (L1 := [some (.inr (.inr (some 49))), some (.inr (.inr xr)), some (.inr (.inr mr)), some (.inr (.inr ur)), some (.inl (s.1 + (6 : Int32))), none, none]) d_W_law_1843 rfl (by decide) (Nat.le_of_ble_eq_true rfl) rfl rfl ?_
                      refine PJ.goto (pc := 1846) (tgt := 23) d_W_law_1846 (by decide) ?_
                      refine PJ.wid (s.2.2.1 + 64) (s.2.2.2 + 700) (by omega) (by omega) ?_
                      exact PJ.done rfl
                    · exact PJ.nn
                  · refine PJ.swc (pc := 40) (tgt := 503) (off := 463) (7 : Int32) d_W_law_40 (by decide +kernel) (by decide +kernel) (by decide +kernel) (by decide) (fun _ => ?_) (fun _ => ?_)
                    · refine PJ.aload_n (pc := 503) d_W_law_503 rfl ?_
                      refine PJ.aload_n (pc := 504) d_W_law_504 rfl ?_
                      refine PJ.iload (pc := 505) d_W_law_505 rfl ?_
                      refine PJ.iconst (pc := 507) (v := 1) d_W_law_507 (by decide) ?_
                      refine PJ.iadd (pc := 508) d_W_law_508 ?_
                      refine PJ.sld (pc := 509) d_W_law_509 (fun v42 => ?_)
                      refine PJ.aload_n (pc := 510) d_W_law_510 rfl ?_
                      refine PJ.iload (pc := 511) d_W_law_511 rfl ?_
                      refine PJ.iconst (pc := 513) (v := 2) d_W_law_513 (by decide) ?_
                      refine PJ.iadd (pc := 514) d_W_law_514 ?_
                      refine PJ.sld (pc := 515) d_W_law_515 (fun v43 => ?_)
                      refine PJ.cVI (pc := 516) cs_W_50 (fun z hz => PM_T_tax hz) (lw_fit (Nat.le_of_ble_eq_true rfl) (Nat.le_of_ble_eq_true rfl) (by omega) (by omega)) rfl rfl (Nat.le_of_ble_eq_true rfl) d_W_law_516 (fun v44 => ?_)
                      refine PJ.aload_n (pc := 519) d_W_law_519 rfl ?_
                      refine PJ.aload_n (pc := 520) d_W_law_520 rfl ?_
                      refine PJ.iload (pc := 521) d_W_law_521 rfl ?_
                      refine PJ.iconst (pc := 523) (v := 1) d_W_law_523 (by decide) ?_
                      refine PJ.iadd (pc := 524) d_W_law_524 ?_
                      refine PJ.sld (pc := 525) d_W_law_525 (fun v45 => ?_)
                      refine PJ.aload_n (pc := 526) d_W_law_526 rfl ?_
                      refine PJ.iload (pc := 527) d_W_law_527 rfl ?_
                      refine PJ.iconst (pc := 529) (v := 2) d_W_law_529 (by decide) ?_
                      refine PJ.iadd (pc := 530) d_W_law_530 ?_
                      refine PJ.sld (pc := 531) d_W_law_531 (fun v46 => ?_)
                      refine PJ.cVI (pc := 532) cs_W_53 (fun z hz => PM_M_tax hz) (lw_fit (Nat.le_of_ble_eq_true rfl) (Nat.le_of_ble_eq_true rfl) (by omega) (by omega)) rfl rfl (Nat.le_of_ble_eq_true rfl) d_W_law_532 (fun v47 => ?_)
                      refine PJ.icmp_eq (pc := 535) (tgt := 1843) d_W_law_535 (by decide) (fun _ => ?_) (fun _ => ?_)
                      · refine PJ.iinc (pc := 1843) (v := 6) (L1 := [some (.inr (.inr (some 49))), some (.inr (.inr xr)), some (.inr (.inr mr)), some (.inr (.inr ur)), some (.inl (s.1 + (6 : Int32))), none, none]) d_W_law_1843 rfl (by decide) (Nat.le_of_ble_eq_true rfl) rfl rfl ?_
                        refine PJ.goto (pc := 1846) (tgt := 23) d_W_law_1846 (by decide) ?_
                        refine PJ.wid (s.2.2.1 + 64) (s.2.2.2 + 700) (by omega) (by omega) ?_
                        exact PJ.done rfl
                      · exact PJ.nn
                    · refine PJ.swc (pc := 40) (tgt := 540) (off := 500) (8 : Int32) d_W_law_40 (by decide +kernel) (by decide +kernel) (by decide +kernel) (by decide) (fun _ => ?_) (fun _ => ?_)
                      · refine PJ.aload_n (pc := 540) d_W_law_540 rfl ?_
                        refine PJ.aload_n (pc := 541) d_W_law_541 rfl ?_
                        refine PJ.iload (pc := 542) d_W_law_542 rfl ?_
                        refine PJ.iconst (pc := 544) (v := 1) d_W_law_544 (by decide) ?_
                        refine PJ.iadd (pc := 545) d_W_law_545 ?_
                        refine PJ.sld (pc := 546) d_W_law_546 (fun v48 => ?_)
                        refine PJ.cVI (pc := 547) cs_W_54 (fun z hz => PM_T_chooses hz) (lw_fit (Nat.le_of_ble_eq_true rfl) (Nat.le_of_ble_eq_true rfl) (by omega) (by omega)) rfl rfl (Nat.le_of_ble_eq_true rfl) d_W_law_547 (fun v49 => ?_)
                        refine PJ.aload_n (pc := 550) d_W_law_550 rfl ?_
                        refine PJ.aload_n (pc := 551) d_W_law_551 rfl ?_
                        refine PJ.iload (pc := 552) d_W_law_552 rfl ?_
                        refine PJ.iconst (pc := 554) (v := 1) d_W_law_554 (by decide) ?_
                        refine PJ.iadd (pc := 555) d_W_law_555 ?_
                        refine PJ.sld (pc := 556) d_W_law_556 (fun v50 => ?_)
                        refine PJ.cVI (pc := 557) cs_W_57 (fun z hz => PM_M_chooses hz) (lw_fit (Nat.le_of_ble_eq_true rfl) (Nat.le_of_ble_eq_true rfl) (by omega) (by omega)) rfl rfl (Nat.le_of_ble_eq_true rfl) d_W_law_557 (fun v51 => ?_)
                        refine PJ.icmp_eq (pc := 560) (tgt := 1843) d_W_law_560 (by decide) (fun _ => ?_) (fun _ => ?_)
                        · refine PJ.iinc (pc := 1843) (v := 6) (L1 := [some (.inr (.inr (some 49))), some (.inr (.inr xr)), some (.inr (.inr mr)), some (.inr (.inr ur)), some (.inl (s.1 + (6 : Int32))), none, none]) d_W_law_1843 rfl (by decide) (Nat.le_of_ble_eq_true rfl) rfl rfl ?_
                          refine PJ.goto (pc := 1846) (tgt := 23) d_W_law_1846 (by decide) ?_
                          refine PJ.wid (s.2.2.1 + 64) (s.2.2.2 + 700) (by omega) (by omega) ?_
                          exact PJ.done rfl
                        · exact PJ.nn
                      · refine PJ.swc (pc := 40) (tgt := 565) (off := 525) (9 : Int32) d_W_law_40 (by decide +kernel) (by decide +kernel) (by decide +kernel) (by decide) (fun _ => ?_) (fun _ => ?_)
                        · refine PJ.aload_n (pc := 565) d_W_law_565 rfl ?_
                          refine PJ.cVI (pc := 566) cs_W_58 (fun z hz => PM_T_waverers hz) (lw_fit (Nat.le_of_ble_eq_true rfl) (Nat.le_of_ble_eq_true rfl) (by omega) (by omega)) rfl rfl (Nat.le_of_ble_eq_true rfl) d_W_law_566 (fun v52 => ?_)
                          refine PJ.aload_n (pc := 569) d_W_law_569 rfl ?_
                          refine PJ.cVI (pc := 570) cs_W_61 (fun z hz => PM_M_waverers hz) (lw_fit (Nat.le_of_ble_eq_true rfl) (Nat.le_of_ble_eq_true rfl) (by omega) (by omega)) rfl rfl (Nat.le_of_ble_eq_true rfl) d_W_law_570 (fun v53 => ?_)
                          refine PJ.icmp_eq (pc := 573) (tgt := 1843) d_W_law_573 (by decide) (fun _ => ?_) (fun _ => ?_)
                          · refine PJ.iinc (pc := 1843) (v := 6) (L1 := [some (.inr (.inr (some 49))), some (.inr (.inr xr)), some (.inr (.inr mr)), some (.inr (.inr ur)), some (.inl (s.1 + (6 : Int32))), none, none]) d_W_law_1843 rfl (by decide) (Nat.le_of_ble_eq_true rfl) rfl rfl ?_
                            refine PJ.goto (pc := 1846) (tgt := 23) d_W_law_1846 (by decide) ?_
                            refine PJ.wid (s.2.2.1 + 64) (s.2.2.2 + 700) (by omega) (by omega) ?_
                            exact PJ.done rfl
                          · exact PJ.nn
                        · refine PJ.swc (pc := 40) (tgt := 578) (off := 538) (10 : Int32) d_W_law_40 (by decide +kernel) (by decide +kernel) (by decide +kernel) (by decide) (fun _ => ?_) (fun _ => ?_)
                          · refine PJ.aload_n (pc := 578) d_W_law_578 rfl ?_
                            refine PJ.aload_n (pc := 579) d_W_law_579 rfl ?_
                            refine PJ.iload (pc := 580) d_W_law_580 rfl ?_
                            refine PJ.iconst (pc := 582) (v := 1) d_W_law_582 (by decide) ?_
                            refine PJ.iadd (pc := 583) d_W_law_583 ?_
                            refine PJ.sld (pc := 584) d_W_law_584 (fun v54 => ?_)
                            refine PJ.cVI (pc := 585) cs_W_62 (fun z hz => PM_T_holders hz) (lw_fit (Nat.le_of_ble_eq_true rfl) (Nat.le_of_ble_eq_true rfl) (by omega) (by omega)) rfl rfl (Nat.le_of_ble_eq_true rfl) d_W_law_585 (fun v55 => ?_)
                            refine PJ.aload_n (pc := 588) d_W_law_588 rfl ?_
                            refine PJ.aload_n (pc := 589) d_W_law_589 rfl ?_
                            refine PJ.iload (pc := 590) d_W_law_590 rfl ?_
                            refine PJ.iconst (pc := 592) (v := 1) d_W_law_592 (by decide) ?_
                            refine PJ.iadd (pc := 593) d_W_law_593 ?_
                            refine PJ.sld (pc := 594) d_W_law_594 (fun v56 => ?_)
                            refine PJ.cVI (pc := 595) cs_W_65 (fun z hz => PM_M_holders hz) (lw_fit (Nat.le_of_ble_eq_true rfl) (Nat.le_of_ble_eq_true rfl) (by omega) (by omega)) rfl rfl (Nat.le_of_ble_eq_true rfl) d_W_law_595 (fun v57 => ?_)
                            refine PJ.icmp_eq (pc := 598) (tgt := 1843) d_W_law_598 (by decide) (fun _ => ?_) (fun _ => ?_)
                            · refine PJ.iinc (pc := 1843) (v := 6) (L1 := [some (.inr (.inr (some 49))), some (.inr (.inr xr)), some (.inr (.inr mr)), some (.inr (.inr ur)), some (.inl (s.1 + (6 : Int32))), none, none]) d_W_law_1843 rfl (by decide) (Nat.le_of_ble_eq_true rfl) rfl rfl ?_
                              refine PJ.goto (pc := 1846) (tgt := 23) d_W_law_1846 (by decide) ?_
                              refine PJ.wid (s.2.2.1 + 64) (s.2.2.2 + 700) (by omega) (by omega) ?_
                              exact PJ.done rfl
                            · exact PJ.nn
                          · refine PJ.swc (pc := 40) (tgt := 603) (off := 563) (11 : Int32) d_W_law_40 (by decide +kernel) (by decide +kernel) (by decide +kernel) (by decide) (fun _ => ?_) (fun _ => ?_)
                            · refine PJ.aload_n (pc := 603) d_W_law_603 rfl ?_
                              refine PJ.cVI (pc := 604) cs_W_66 (fun z hz => PM_T_fashion hz) (lw_fit (Nat.le_of_ble_eq_true rfl) (Nat.le_of_ble_eq_true rfl) (by omega) (by omega)) rfl rfl (Nat.le_of_ble_eq_true rfl) d_W_law_604 (fun v58 => ?_)
                              refine PJ.aload_n (pc := 607) d_W_law_607 rfl ?_
                              refine PJ.cVI (pc := 608) cs_W_69 (fun z hz => PM_M_fashion hz) (lw_fit (Nat.le_of_ble_eq_true rfl) (Nat.le_of_ble_eq_true rfl) (by omega) (by omega)) rfl rfl (Nat.le_of_ble_eq_true rfl) d_W_law_608 (fun v59 => ?_)
                              refine PJ.icmp_eq (pc := 611) (tgt := 1843) d_W_law_611 (by decide) (fun _ => ?_) (fun _ => ?_)
                              · refine PJ.iinc (pc := 1843) (v := 6) (L1 := [some (.inr (.inr (some 49))), some (.inr (.inr xr)), some (.inr (.inr mr)), some (.inr (.inr ur)), some (.inl (s.1 + (6 : Int32))), none, none]) d_W_law_1843 rfl (by decide) (Nat.le_of_ble_eq_true rfl) rfl rfl ?_
                                refine PJ.goto (pc := 1846) (tgt := 23) d_W_law_1846 (by decide) ?_
                                refine PJ.wid (s.2.2.1 + 64) (s.2.2.2 + 700) (by omega) (by omega) ?_
                                exact PJ.done rfl
                              · exact PJ.nn
                            · refine PJ.swc (pc := 40) (tgt := 616) (off := 576) (12 : Int32) d_W_law_40 (by decide +kernel) (by decide +kernel) (by decide +kernel) (by decide) (fun _ => ?_) (fun _ => ?_)
                              · refine PJ.aload_n (pc := 616) d_W_law_616 rfl ?_
                                refine PJ.aload_n (pc := 617) d_W_law_617 rfl ?_
                                refine PJ.iload (pc := 618) d_W_law_618 rfl ?_
                                refine PJ.iconst (pc := 620) (v := 1) d_W_law_620 (by decide) ?_
                                refine PJ.iadd (pc := 621) d_W_law_621 ?_
                                refine PJ.sld (pc := 622) d_W_law_622 (fun v60 => ?_)
                                refine PJ.cVI (pc := 623) cs_W_70 (fun z hz => PM_T_came hz) (lw_fit (Nat.le_of_ble_eq_true rfl) (Nat.le_of_ble_eq_true rfl) (by omega) (by omega)) rfl rfl (Nat.le_of_ble_eq_true rfl) d_W_law_623 (fun v61 => ?_)
                                refine PJ.aload_n (pc := 626) d_W_law_626 rfl ?_
                                refine PJ.aload_n (pc := 627) d_W_law_627 rfl ?_
                                refine PJ.iload (pc := 628) d_W_law_628 rfl ?_
                                refine PJ.iconst (pc := 630) (v := 1) d_W_law_630 (by decide) ?_
                                refine PJ.iadd (pc := 631) d_W_law_631 ?_
                                refine PJ.sld (pc := 632) d_W_law_632 (fun v62 => ?_)
                                refine PJ.cVI (pc := 633) cs_W_73 (fun z hz => PM_M_came hz) (lw_fit (Nat.le_of_ble_eq_true rfl) (Nat.le_of_ble_eq_true rfl) (by omega) (by omega)) rfl rfl (Nat.le_of_ble_eq_true rfl) d_W_law_633 (fun v63 => ?_)
                                refine PJ.icmp_eq (pc := 636) (tgt := 1843) d_W_law_636 (by decide) (fun _ => ?_) (fun _ => ?_)
                                · refine PJ.iinc (pc := 1843) (v := 6) (L1 := [some (.inr (.inr (some 49))), some (.inr (.inr xr)), some (.inr (.inr mr)), some (.inr (.inr ur)), some (.inl (s.1 + (6 : Int32))), none, none]) d_W_law_1843 rfl (by decide) (Nat.le_of_ble_eq_true rfl) rfl rfl ?_
                                  refine PJ.goto (pc := 1846) (tgt := 23) d_W_law_1846 (by decide) ?_
                                  refine PJ.wid (s.2.2.1 + 64) (s.2.2.2 + 700) (by omega) (by omega) ?_
                                  exact PJ.done rfl
                                · exact PJ.nn
                              · refine PJ.swc (pc := 40) (tgt := 641) (off := 601) (13 : Int32) d_W_law_40 (by decide +kernel) (by decide +kernel) (by decide +kernel) (by decide) (fun _ => ?_) (fun _ => ?_)
                                · refine PJ.aload_n (pc := 641) d_W_law_641 rfl ?_
                                  refine PJ.cVI (pc := 642) cs_W_74 (fun z hz => PM_T_paid hz) (lw_fit (Nat.le_of_ble_eq_true rfl) (Nat.le_of_ble_eq_true rfl) (by omega) (by omega)) rfl rfl (Nat.le_of_ble_eq_true rfl) d_W_law_642 (fun v64 => ?_)
                                  refine PJ.aload_n (pc := 645) d_W_law_645 rfl ?_
                                  refine PJ.cVI (pc := 646) cs_W_77 (fun z hz => PM_M_paid hz) (lw_fit (Nat.le_of_ble_eq_true rfl) (Nat.le_of_ble_eq_true rfl) (by omega) (by omega)) rfl rfl (Nat.le_of_ble_eq_true rfl) d_W_law_646 (fun v65 => ?_)
                                  refine PJ.icmp_eq (pc := 649) (tgt := 1843) d_W_law_649 (by decide) (fun _ => ?_) (fun _ => ?_)
                                  · refine PJ.iinc (pc := 1843) (v := 6) (L1 := [some (.inr (.inr (some 49))), some (.inr (.inr xr)), some (.inr (.inr mr)), some (.inr (.inr ur)), some (.inl (s.1 + (6 : Int32))), none, none]) d_W_law_1843 rfl (by decide) (Nat.le_of_ble_eq_true rfl) rfl rfl ?_
                                    refine PJ.goto (pc := 1846) (tgt := 23) d_W_law_1846 (by decide) ?_
                                    refine PJ.wid (s.2.2.1 + 64) (s.2.2.2 + 700) (by omega) (by omega) ?_
                                    exact PJ.done rfl
                                  · exact PJ.nn
                                · refine PJ.swc (pc := 40) (tgt := 654) (off := 614) (14 : Int32) d_W_law_40 (by decide +kernel) (by decide +kernel) (by decide +kernel) (by decide) (fun _ => ?_) (fun _ => ?_)
                                  · refine PJ.aload_n (pc := 654) d_W_law_654 rfl ?_
                                    refine PJ.cVI (pc := 655) cs_W_78 (fun z hz => PM_T_farthest hz) (lw_fit (Nat.le_of_ble_eq_true rfl) (Nat.le_of_ble_eq_true rfl) (by omega) (by omega)) rfl rfl (Nat.le_of_ble_eq_true rfl) d_W_law_655 (fun v66 => ?_)
                                    refine PJ.aload_n (pc := 658) d_W_law_658 rfl ?_
                                    refine PJ.cVI (pc := 659) cs_W_81 (fun z hz => PM_M_farthest hz) (lw_fit (Nat.le_of_ble_eq_true rfl) (Nat.le_of_ble_eq_true rfl) (by omega) (by omega)) rfl rfl (Nat.le_of_ble_eq_true rfl) d_W_law_659 (fun v67 => ?_)
                                    refine PJ.icmp_eq (pc := 662) (tgt := 1843) d_W_law_662 (by decide) (fun _ => ?_) (fun _ => ?_)
                                    · refine PJ.iinc (pc := 1843) (v := 6) (L1 := [some (.inr (.inr (some 49))), some (.inr (.inr xr)), some (.inr (.inr mr)), some (.inr (.inr ur)), some (.inl (s.1 + (6 : Int32))), none, none]) d_W_law_1843 rfl (by decide) (Nat.le_of_ble_eq_true rfl) rfl rfl ?_
                                      refine PJ.goto (pc := 1846) (tgt := 23) d_W_law_1846 (by decide) ?_
                                      refine PJ.wid (s.2.2.1 + 64) (s.2.2.2 + 700) (by omega) (by omega) ?_
                                      exact PJ.done rfl
                                    · exact PJ.nn
                                  · refine PJ.swc (pc := 40) (tgt := 667) (off := 627) (15 : Int32) d_W_law_40 (by decide +kernel) (by decide +kernel) (by decide +kernel) (by decide) (fun _ => ?_) (fun _ => ?_)
                                    · refine PJ.aload_n (pc := 667) d_W_law_667 rfl ?_
                                      refine PJ.aload_n (pc := 668) d_W_law_668 rfl ?_
                                      refine PJ.iload (pc := 669) d_W_law_669 rfl ?_
                                      refine PJ.iconst (pc := 671) (v := 1) d_W_law_671 (by decide) ?_
                                      refine PJ.iadd (pc := 672) d_W_law_672 ?_
                                      refine PJ.sld (pc := 673) d_W_law_673 (fun v68 => ?_)
                                      refine PJ.aload_n (pc := 674) d_W_law_674 rfl ?_
                                      refine PJ.iload (pc := 675) d_W_law_675 rfl ?_
                                      refine PJ.iconst (pc := 677) (v := 2) d_W_law_677 (by decide) ?_
                                      refine PJ.iadd (pc := 678) d_W_law_678 ?_
                                      refine PJ.sld (pc := 679) d_W_law_679 (fun v69 => ?_)
                                      refine PJ.aload_n (pc := 680) d_W_law_680 rfl ?_
                                      refine PJ.iload (pc := 681) d_W_law_681 rfl ?_
                                      refine PJ.iconst (pc := 683) (v := 3) d_W_law_683 (by decide) ?_
                                      refine PJ.iadd (pc := 684) d_W_law_684 ?_
                                      refine PJ.sld (pc := 685) d_W_law_685 (fun v70 => ?_)
                                      refine PJ.bind (fun j71 : Int32 => ((694 : Nat), ([some (.inr (.inr (some 49))), some (.inr (.inr xr)), some (.inr (.inr mr)), some (.inr (.inr ur)), some (.inl s.1), none, none] : List (Option PV)), ([.inl j71, .inl v69, .inl v68, .inr (.inr xr)] : List PV), (s.2.1 : PH), (s.2.2.1 : Nat), (s.2.2.2 : Nat))) ?_ (fun j71 => ?_)
                                      · refine PJ.if_eq (pc := 686) (tgt := 693) d_W_law_686 (by decide) (fun _ => ?_) (fun _ => ?_)
                                        · refine PJ.iconst (pc := 693) (v := 0) d_W_law_693 (by decide) ?_
                                          exact PJ.done rfl
                                        · refine PJ.iconst (pc := 689) (v := 1) d_W_law_689 (by decide) ?_
                                          refine PJ.goto (pc := 690) (tgt := 694) d_W_law_690 (by decide) ?_
                                          exact PJ.done rfl
                                      · show PJ l G room_1 Y_W_law 694 [some (.inr (.inr (some 49))), some (.inr (.inr xr)), some (.inr (.inr mr)), some (.inr (.inr ur)), some (.inl s.1), none, none] [.inl j71, .inl v69, .inl v68, .inr (.inr xr)] s.2.1 s.2.2.1 s.2.2.2 _ _
                                        refine PJ.cVL (pc := 694) cs_W_82 (fun z hz => PM_T_plan hz) (lw_fit (Nat.le_of_ble_eq_true rfl) (Nat.le_of_ble_eq_true rfl) (by omega) (by omega)) rfl rfl (Nat.le_of_ble_eq_true rfl) d_W_law_694 (fun v72 => ?_)
                                        refine PJ.aload_n (pc := 697) d_W_law_697 rfl ?_
                                        refine PJ.aload_n (pc := 698) d_W_law_698 rfl ?_
                                        refine PJ.iload (pc := 699) d_W_law_699 rfl ?_
                                        refine PJ.iconst (pc := 701) (v := 1) d_W_law_701 (by decide) ?_
                                        refine PJ.iadd (pc := 702) d_W_law_702 ?_
                                        refine PJ.sld (pc := 703) d_W_law_703 (fun v73 => ?_)
                                        refine PJ.aload_n (pc := 704) d_W_law_704 rfl ?_
                                        refine PJ.iload (pc := 705) d_W_law_705 rfl ?_
                                        refine PJ.iconst (pc := 707) (v := 2) d_W_law_707 (by decide) ?_
                                        refine PJ.iadd (pc := 708) d_W_law_708 ?_
                                        refine PJ.sld (pc := 709) d_W_law_709 (fun v74 => ?_)
                                        refine PJ.aload_n (pc := 710) d_W_law_710 rfl ?_
                                        refine PJ.iload (pc := 711) d_W_law_711 rfl ?_
                                        refine PJ.iconst (pc := 713) (v := 3) d_W_law_713 (by decide) ?_
                                        refine PJ.iadd (pc := 714) d_W_law_714 ?_
                                        refine PJ.sld (pc := 715) d_W_law_715 (fun v75 => ?_)
                                        refine PJ.bind (fun j76 : Int32 => ((724 : Nat), ([some (.inr (.inr (some 49))), some (.inr (.inr xr)), some (.inr (.inr mr)), some (.inr (.inr ur)), some (.inl s.1), none, none] : List (Option PV)), ([.inl j76, .inl v74, .inl v73, .inr (.inr mr), .inr (.inl v72.1)] : List PV), (v72.2 : PH), (s.2.2.1 : Nat), (s.2.2.2 : Nat))) ?_ (fun j76 => ?_)
                                        · refine PJ.if_eq (pc := 716) (tgt := 723) d_W_law_716 (by decide) (fun _ => ?_) (fun _ => ?_)
                                          · refine PJ.iconst (pc := 723) (v := 0) d_W_law_723 (by decide) ?_
                                            exact PJ.done rfl
                                          · refine PJ.iconst (pc := 719) (v := 1) d_W_law_719 (by decide) ?_
                                            refine PJ.goto (pc := 720) (tgt := 724) d_W_law_720 (by decide) ?_
                                            exact PJ.done rfl
                                        · show PJ l G room_1 Y_W_law 724 [some (.inr (.inr (some 49))), some (.inr (.inr xr)), some (.inr (.inr mr)), some (.inr (.inr ur)), some (.inl s.1), none, none] [.inl j76, .inl v74, .inl v73, .inr (.inr mr), .inr (.inl v72.1)] v72.2 s.2.2.1 s.2.2.2 _ _
                                          refine PJ.cVL (pc := 724) cs_W_86 (fun z hz => PM_M_plan hz) (lw_fit (Nat.le_of_ble_eq_true rfl) (Nat.le_of_ble_eq_true rfl) (by omega) (by omega)) rfl rfl (Nat.le_of_ble_eq_true rfl) d_W_law_724 (fun v77 => ?_)
                                          refine PJ.lcmp (pc := 727) d_W_law_727 ?_
                                          refine PJ.if_eq (pc := 728) (tgt := 1843) d_W_law_728 (by decide) (fun _ => ?_) (fun _ => ?_)
                                          · refine PJ.iinc (pc := 1843) (v := 6) (L1 := [some (.inr (.inr (some 49))), some (.inr (.inr xr)), some (.inr (.inr mr)), some (.inr (.inr ur)), some (.inl (s.1 + (6 : Int32))), none, none]) d_W_law_1843 rfl (by decide) (Nat.le_of_ble_eq_true rfl) rfl rfl ?_
                                            refine PJ.goto (pc := 1846) (tgt := 23) d_W_law_1846 (by decide) ?_
                                            refine PJ.wid (s.2.2.1 + 64) (s.2.2.2 + 700) (by omega) (by omega) ?_
                                            exact PJ.done rfl
                                          · exact PJ.nn
                                    · refine PJ.swc (pc := 40) (tgt := 733) (off := 693) (16 : Int32) d_W_law_40 (by decide +kernel) (by decide +kernel) (by decide +kernel) (by decide) (fun _ => ?_) (fun _ => ?_)
                                      · refine PJ.aload_n (pc := 733) d_W_law_733 rfl ?_
                                        refine PJ.aload_n (pc := 734) d_W_law_734 rfl ?_
                                        refine PJ.iload (pc := 735) d_W_law_735 rfl ?_
                                        refine PJ.iconst (pc := 737) (v := 1) d_W_law_737 (by decide) ?_
                                        refine PJ.iadd (pc := 738) d_W_law_738 ?_
                                        refine PJ.sld (pc := 739) d_W_law_739 (fun v78 => ?_)
                                        refine PJ.aload_n (pc := 740) d_W_law_740 rfl ?_
                                        refine PJ.iload (pc := 741) d_W_law_741 rfl ?_
                                        refine PJ.iconst (pc := 743) (v := 2) d_W_law_743 (by decide) ?_
                                        refine PJ.iadd (pc := 744) d_W_law_744 ?_
                                        refine PJ.sld (pc := 745) d_W_law_745 (fun v79 => ?_)
                                        refine PJ.cVI (pc := 746) cs_W_87 (fun z hz => PM_T_planFirst hz) (lw_fit (Nat.le_of_ble_eq_true rfl) (Nat.le_of_ble_eq_true rfl) (by omega) (by omega)) rfl rfl (Nat.le_of_ble_eq_true rfl) d_W_law_746 (fun v80 => ?_)
                                        refine PJ.aload_n (pc := 749) d_W_law_749 rfl ?_
                                        refine PJ.aload_n (pc := 750) d_W_law_750 rfl ?_
                                        refine PJ.iload (pc := 751) d_W_law_751 rfl ?_
                                        refine PJ.iconst (pc := 753) (v := 1) d_W_law_753 (by decide) ?_
                                        refine PJ.iadd (pc := 754) d_W_law_754 ?_
                                        refine PJ.sld (pc := 755) d_W_law_755 (fun v81 => ?_)
                                        refine PJ.aload_n (pc := 756) d_W_law_756 rfl ?_
                                        refine PJ.iload (pc := 757) d_W_law_757 rfl ?_
                                        refine PJ.iconst (pc := 759) (v := 2) d_W_law_759 (by decide) ?_
                                        refine PJ.iadd (pc := 760) d_W_law_760 ?_
                                        refine PJ.sld (pc := 761) d_W_law_761 (fun v82 => ?_)
                                        refine PJ.cVI (pc := 762) cs_W_90 (fun z hz => PM_M_planFirst hz) (lw_fit (Nat.le_of_ble_eq_true rfl) (Nat.le_of_ble_eq_true rfl) (by omega) (by omega)) rfl rfl (Nat.le_of_ble_eq_true rfl) d_W_law_762 (fun v83 => ?_)
                                        refine PJ.icmp_eq (pc := 765) (tgt := 1843) d_W_law_765 (by decide) (fun _ => ?_) (fun _ => ?_)
                                        · refine PJ.iinc (pc := 1843) (v := 6) (L1 := [some (.inr (.inr (some 49))), some (.inr (.inr xr)), some (.inr (.inr mr)), some (.inr (.inr ur)), some (.inl (s.1 + (6 : Int32))), none, none]) d_W_law_1843 rfl (by decide) (Nat.le_of_ble_eq_true rfl) rfl rfl ?_
                                          refine PJ.goto (pc := 1846) (tgt := 23) d_W_law_1846 (by decide) ?_
                                          refine PJ.wid (s.2.2.1 + 64) (s.2.2.2 + 700) (by omega) (by omega) ?_
                                          exact PJ.done rfl
                                        · exact PJ.nn
                                      · refine PJ.swc (pc := 40) (tgt := 770) (off := 730) (17 : Int32) d_W_law_40 (by decide +kernel) (by decide +kernel) (by decide +kernel) (by decide) (fun _ => ?_) (fun _ => ?_)
                                        · refine PJ.aload_n (pc := 770) d_W_law_770 rfl ?_
                                          refine PJ.aload_n (pc := 771) d_W_law_771 rfl ?_
                                          refine PJ.iload (pc := 772) d_W_law_772 rfl ?_
                                          refine PJ.iconst (pc := 774) (v := 1) d_W_law_774 (by decide) ?_
                                          refine PJ.iadd (pc := 775) d_W_law_775 ?_
                                          refine PJ.sld (pc := 776) d_W_law_776 (fun v84 => ?_)
                                          refine PJ.aload_n (pc := 777) d_W_law_777 rfl ?_
                                          refine PJ.iload (pc := 778) d_W_law_778 rfl ?_
                                          refine PJ.iconst (pc := 780) (v := 2) d_W_law_780 (by decide) ?_
                                          refine PJ.iadd (pc := 781) d_W_law_781 ?_
                                          refine PJ.sld (pc := 782) d_W_law_782 (fun v85 => ?_)
                                          refine PJ.aload_n (pc := 783) d_W_law_783 rfl ?_
                                          refine PJ.iload (pc := 784) d_W_law_784 rfl ?_
                                          refine PJ.iconst (pc := 786) (v := 3) d_W_law_786 (by decide) ?_
                                          refine PJ.iadd (pc := 787) d_W_law_787 ?_
                                          refine PJ.sld (pc := 788) d_W_law_788 (fun v86 => ?_)
                                          refine PJ.bind (fun j87 : Int32 => ((797 : Nat), ([some (.inr (.inr (some 49))), some (.inr (.inr xr)), some (.inr (.inr mr)), some (.inr (.inr ur)), some (.inl s.1), none, none] : List (Option PV)), ([.inl j87, .inl v85, .inl v84, .inr (.inr xr)] : List PV), (s.2.1 : PH), (s.2.2.1 : Nat), (s.2.2.2 : Nat))) ?_ (fun j87 => ?_)
                                          · refine PJ.if_eq (pc := 789) (tgt := 796) d_W_law_789 (by decide) (fun _ => ?_) (fun _ => ?_)
                                            · refine PJ.iconst (pc := 796) (v := 0) d_W_law_796 (by decide) ?_
                                              exact PJ.done rfl
                                            · refine PJ.iconst (pc := 792) (v := 1) d_W_law_792 (by decide) ?_
                                              refine PJ.goto (pc := 793) (tgt := 797) d_W_law_793 (by decide) ?_
                                              exact PJ.done rfl
                                          · show PJ l G room_1 Y_W_law 797 [some (.inr (.inr (some 49))), some (.inr (.inr xr)), some (.inr (.inr mr)), some (.inr (.inr ur)), some (.inl s.1), none, none] [.inl j87, .inl v85, .inl v84, .inr (.inr xr)] s.2.1 s.2.2.1 s.2.2.2 _ _
                                            refine PJ.cVL (pc := 797) cs_W_91 (fun z hz => PM_T_stays hz) (lw_fit (Nat.le_of_ble_eq_true rfl) (Nat.le_of_ble_eq_true rfl) (by omega) (by omega)) rfl rfl (Nat.le_of_ble_eq_true rfl) d_W_law_797 (fun v88 => ?_)
                                            refine PJ.aload_n (pc := 800) d_W_law_800 rfl ?_
                                            refine PJ.aload_n (pc := 801) d_W_law_801 rfl ?_
                                            refine PJ.iload (pc := 802) d_W_law_802 rfl ?_
                                            refine PJ.iconst (pc := 804) (v := 1) d_W_law_804 (by decide) ?_
                                            refine PJ.iadd (pc := 805) d_W_law_805 ?_
                                            refine PJ.sld (pc := 806) d_W_law_806 (fun v89 => ?_)
                                            refine PJ.aload_n (pc := 807) d_W_law_807 rfl ?_
                                            refine PJ.iload (pc := 808) d_W_law_808 rfl ?_
                                            refine PJ.iconst (pc := 810) (v := 2) d_W_law_810 (by decide) ?_
                                            refine PJ.iadd (pc := 811) d_W_law_811 ?_
                                            refine PJ.sld (pc := 812) d_W_law_812 (fun v90 => ?_)
                                            refine PJ.aload_n (pc := 813) d_W_law_813 rfl ?_
                                            refine PJ.iload (pc := 814) d_W_law_814 rfl ?_
                                            refine PJ.iconst (pc := 816) (v := 3) d_W_law_816 (by decide) ?_
                                            refine PJ.iadd (pc := 817) d_W_law_817 ?_
                                            refine PJ.sld (pc := 818) d_W_law_818 (fun v91 => ?_)
                                            refine PJ.bind (fun j92 : Int32 => ((827 : Nat), ([some (.inr (.inr (some 49))), some (.inr (.inr xr)), some (.inr (.inr mr)), some (.inr (.inr ur)), some (.inl s.1), none, none] : List (Option PV)), ([.inl j92, .inl v90, .inl v89, .inr (.inr mr), .inr (.inl v88.1)] : List PV), (v88.2 : PH), (s.2.2.1 : Nat), (s.2.2.2 : Nat))) ?_ (fun j92 => ?_)
                                            · refine PJ.if_eq (pc := 819) (tgt := 826) d_W_law_819 (by decide) (fun _ => ?_) (fun _ => ?_)
                                              · refine PJ.iconst (pc := 826) (v := 0) d_W_law_826 (by decide) ?_
                                                exact PJ.done rfl
                                              · refine PJ.iconst (pc := 822) (v := 1) d_W_law_822 (by decide) ?_
                                                refine PJ.goto (pc := 823) (tgt := 827) d_W_law_823 (by decide) ?_
                                                exact PJ.done rfl
                                            · show PJ l G room_1 Y_W_law 827 [some (.inr (.inr (some 49))), some (.inr (.inr xr)), some (.inr (.inr mr)), some (.inr (.inr ur)), some (.inl s.1), none, none] [.inl j92, .inl v90, .inl v89, .inr (.inr mr), .inr (.inl v88.1)] v88.2 s.2.2.1 s.2.2.2 _ _
                                              refine PJ.cVL (pc := 827) cs_W_94 (fun z hz => PM_M_stays hz) (lw_fit (Nat.le_of_ble_eq_true rfl) (Nat.le_of_ble_eq_true rfl) (by omega) (by omega)) rfl rfl (Nat.le_of_ble_eq_true rfl) d_W_law_827 (fun v93 => ?_)
                                              refine PJ.lcmp (pc := 830) d_W_law_830 ?_
                                              refine PJ.if_eq (pc := 831) (tgt := 1843) d_W_law_831 (by decide) (fun _ => ?_) (fun _ => ?_)
                                              · refine PJ.iinc (pc := 1843) (v := 6) (L1 := [some (.inr (.inr (some 49))), some (.inr (.inr xr)), some (.inr (.inr mr)), some (.inr (.inr ur)), some (.inl (s.1 + (6 : Int32))), none, none]) d_W_law_1843 rfl (by decide) (Nat.le_of_ble_eq_true rfl) rfl rfl ?_
                                                refine PJ.goto (pc := 1846) (tgt := 23) d_W_law_1846 (by decide) ?_
                                                refine PJ.wid (s.2.2.1 + 64) (s.2.2.2 + 700) (by omega) (by omega) ?_
                                                exact PJ.done rfl
                                              · exact PJ.nn
                                        · refine PJ.swc (pc := 40) (tgt := 836) (off := 796) (18 : Int32) d_W_law_40 (by decide +kernel) (by decide +kernel) (by decide +kernel) (by decide) (fun _ => ?_) (fun _ => ?_)
                                          · refine PJ.aload_n (pc := 836) d_W_law_836 rfl ?_
                                            refine PJ.aload_n (pc := 837) d_W_law_837 rfl ?_
                                            refine PJ.iload (pc := 838) d_W_law_838 rfl ?_
                                            refine PJ.iconst (pc := 840) (v := 1) d_W_law_840 (by decide) ?_
                                            refine PJ.iadd (pc := 841) d_W_law_841 ?_
                                            refine PJ.sld (pc := 842) d_W_law_842 (fun v94 => ?_)
                                            refine PJ.aload_n (pc := 843) d_W_law_843 rfl ?_
                                            refine PJ.iload (pc := 844) d_W_law_844 rfl ?_
                                            refine PJ.iconst (pc := 846) (v := 2) d_W_law_846 (by decide) ?_
                                            refine PJ.iadd (pc := 847) d_W_law_847 ?_
                                            refine PJ.sld (pc := 848) d_W_law_848 (fun v95 => ?_)
                                            refine PJ.aload_n (pc := 849) d_W_law_849 rfl ?_
                                            refine PJ.iload (pc := 850) d_W_law_850 rfl ?_
                                            refine PJ.iconst (pc := 852) (v := 3) d_W_law_852 (by decide) ?_
                                            refine PJ.iadd (pc := 853) d_W_law_853 ?_
                                            refine PJ.sld (pc := 854) d_W_law_854 (fun v96 => ?_)
                                            refine PJ.aload_n (pc := 855) d_W_law_855 rfl ?_
                                            refine PJ.iload (pc := 856) d_W_law_856 rfl ?_
                                            refine PJ.iconst (pc := 858) (v := 4) d_W_law_858 (by decide) ?_
                                            refine PJ.iadd (pc := 859) d_W_law_859 ?_
                                            refine PJ.sld (pc := 860) d_W_law_860 (fun v97 => ?_)
                                            refine PJ.bind (fun j98 : Int32 => ((869 : Nat), ([some (.inr (.inr (some 49))), some (.inr (.inr xr)), some (.inr (.inr mr)), some (.inr (.inr ur)), some (.inl s.1), none, none] : List (Option PV)), ([.inl j98, .inl v96, .inl v95, .inl v94, .inr (.inr xr)] : List PV), (s.2.1 : PH), (s.2.2.1 : Nat), (s.2.2.2 : Nat))) ?_ (fun j98 => ?_)
                                            · refine PJ.if_eq (pc := 861) (tgt := 868) d_W_law_861 (by decide) (fun _ => ?_) (fun _ => ?_)
                                              · refine PJ.iconst (pc := 868) (v := 0) d_W_law_868 (by decide) ?_
                                                exact PJ.done rfl
                                              · refine PJ.iconst (pc := 864) (v := 1) d_W_law_864 (by decide) ?_
                                                refine PJ.goto (pc := 865) (tgt := 869) d_W_law_865 (by decide) ?_
                                                exact PJ.done rfl
                                            · show PJ l G room_1 Y_W_law 869 [some (.inr (.inr (some 49))), some (.inr (.inr xr)), some (.inr (.inr mr)), some (.inr (.inr ur)), some (.inl s.1), none, none] [.inl j98, .inl v96, .inl v95, .inl v94, .inr (.inr xr)] s.2.1 s.2.2.1 s.2.2.2 _ _
                                              refine PJ.cVL (pc := 869) cs_W_95 (fun z hz => PM_T_planBy hz) (lw_fit (Nat.le_of_ble_eq_true rfl) (Nat.le_of_ble_eq_true rfl) (by omega) (by omega)) rfl rfl (Nat.le_of_ble_eq_true rfl) d_W_law_869 (fun v99 => ?_)
                                              refine PJ.aload_n (pc := 872) d_W_law_872 rfl ?_
                                              refine PJ.aload_n (pc := 873) d_W_law_873 rfl ?_
                                              refine PJ.iload (pc := 874) d_W_law_874 rfl ?_
                                              refine PJ.iconst (pc := 876) (v := 1) d_W_law_876 (by decide) ?_
                                              refine PJ.iadd (pc := 877) d_W_law_877 ?_
                                              refine PJ.sld (pc := 878) d_W_law_878 (fun v100 => ?_)
                                              refine PJ.aload_n (pc := 879) d_W_law_879 rfl ?_
                                              refine PJ.iload (pc := 880) d_W_law_880 rfl ?_
                                              refine PJ.iconst (pc := 882) (v := 2) d_W_law_882 (by decide) ?_
                                              refine PJ.iadd (pc := 883) d_W_law_883 ?_
                                              refine PJ.sld (pc := 884) d_W_law_884 (fun v101 => ?_)
                                              refine PJ.aload_n (pc := 885) d_W_law_885 rfl ?_
                                              refine PJ.iload (pc := 886) d_W_law_886 rfl ?_
                                              refine PJ.iconst (pc := 888) (v := 3) d_W_law_888 (by decide) ?_
                                              refine PJ.iadd (pc := 889) d_W_law_889 ?_
                                              refine PJ.sld (pc := 890) d_W_law_890 (fun v102 => ?_)
                                              refine PJ.aload_n (pc := 891) d_W_law_891 rfl ?_
                                              refine PJ.iload (pc := 892) d_W_law_892 rfl ?_
                                              refine PJ.iconst (pc := 894) (v := 4) d_W_law_894 (by decide) ?_
                                              refine PJ.iadd (pc := 895) d_W_law_895 ?_
                                              refine PJ.sld (pc := 896) d_W_law_896 (fun v103 => ?_)
                                              refine PJ.bind (fun j104 : Int32 => ((905 : Nat), ([some (.inr (.inr (some 49))), some (.inr (.inr xr)), some (.inr (.inr mr)), some (.inr (.inr ur)), some (.inl s.1), none, none] : List (Option PV)), ([.inl j104, .inl v102, .inl v101, .inl v100, .inr (.inr mr), .inr (.inl v99.1)] : List PV), (v99.2 : PH), (s.2.2.1 : Nat), (s.2.2.2 : Nat))) ?_ (fun j104 => ?_)
                                              · refine PJ.if_eq (pc := 897) (tgt := 904) d_W_law_897 (by decide) (fun _ => ?_) (fun _ => ?_)
                                                · refine PJ.iconst (pc := 904) (v := 0) d_W_law_904 (by decide) ?_
                                                  exact PJ.done rfl
                                                · refine PJ.iconst (pc := 900) (v := 1) d_W_law_900 (by decide) ?_
                                                  refine PJ.goto (pc := 901) (tgt := 905) d_W_law_901 (by decide) ?_
                                                  exact PJ.done rfl
                                              · show PJ l G room_1 Y_W_law 905 [some (.inr (.inr (some 49))), some (.inr (.inr xr)), some (.inr (.inr mr)), some (.inr (.inr ur)), some (.inl s.1), none, none] [.inl j104, .inl v102, .inl v101, .inl v100, .inr (.inr mr), .inr (.inl v99.1)] v99.2 s.2.2.1 s.2.2.2 _ _
                                                refine PJ.cVL (pc := 905) cs_W_99 (fun z hz => PM_M_planBy hz) (lw_fit (Nat.le_of_ble_eq_true rfl) (Nat.le_of_ble_eq_true rfl) (by omega) (by omega)) rfl rfl (Nat.le_of_ble_eq_true rfl) d_W_law_905 (fun v105 => ?_)
                                                refine PJ.lcmp (pc := 908) d_W_law_908 ?_
                                                refine PJ.if_eq (pc := 909) (tgt := 1843) d_W_law_909 (by decide) (fun _ => ?_) (fun _ => ?_)
                                                · refine PJ.iinc (pc := 1843) (v := 6) (L1 := [some (.inr (.inr (some 49))), some (.inr (.inr xr)), some (.inr (.inr mr)), some (.inr (.inr ur)), some (.inl (s.1 + (6 : Int32))), none, none]) d_W_law_1843 rfl (by decide) (Nat.le_of_ble_eq_true rfl) rfl rfl ?_
                                                  refine PJ.goto (pc := 1846) (tgt := 23) d_W_law_1846 (by decide) ?_
                                                  refine PJ.wid (s.2.2.1 + 64) (s.2.2.2 + 700) (by omega) (by omega) ?_
                                                  exact PJ.done rfl
                                                · exact PJ.nn
                                          · refine PJ.swc (pc := 40) (tgt := 914) (off := 874) (19 : Int32) d_W_law_40 (by decide +kernel) (by decide +kernel) (by decide +kernel) (by decide) (fun _ => ?_) (fun _ => ?_)
                                            · refine PJ.aload_n (pc := 914) d_W_law_914 rfl ?_
                                              refine PJ.cVI (pc := 915) cs_W_100 (fun z hz => PM_T_raised hz) (lw_fit (Nat.le_of_ble_eq_true rfl) (Nat.le_of_ble_eq_true rfl) (by omega) (by omega)) rfl rfl (Nat.le_of_ble_eq_true rfl) d_W_law_915 (fun v106 => ?_)
                                              refine PJ.aload_n (pc := 918) d_W_law_918 rfl ?_
                                              refine PJ.cVI (pc := 919) cs_W_103 (fun z hz => PM_M_raised hz) (lw_fit (Nat.le_of_ble_eq_true rfl) (Nat.le_of_ble_eq_true rfl) (by omega) (by omega)) rfl rfl (Nat.le_of_ble_eq_true rfl) d_W_law_919 (fun v107 => ?_)
                                              refine PJ.icmp_eq (pc := 922) (tgt := 1843) d_W_law_922 (by decide) (fun _ => ?_) (fun _ => ?_)
                                              · refine PJ.iinc (pc := 1843) (v := 6) (L1 := [some (.inr (.inr (some 49))), some (.inr (.inr xr)), some (.inr (.inr mr)), some (.inr (.inr ur)), some (.inl (s.1 + (6 : Int32))), none, none]) d_W_law_1843 rfl (by decide) (Nat.le_of_ble_eq_true rfl) rfl rfl ?_
                                                refine PJ.goto (pc := 1846) (tgt := 23) d_W_law_1846 (by decide) ?_
                                                refine PJ.wid (s.2.2.1 + 64) (s.2.2.2 + 700) (by omega) (by omega) ?_
                                                exact PJ.done rfl
                                              · exact PJ.nn
                                            · refine PJ.swc (pc := 40) (tgt := 927) (off := 887) (20 : Int32) d_W_law_40 (by decide +kernel) (by decide +kernel) (by decide +kernel) (by decide) (fun _ => ?_) (fun _ => ?_)
                                              · refine PJ.aload_n (pc := 927) d_W_law_927 rfl ?_
                                                refine PJ.cVI (pc := 928) cs_W_104 (fun z hz => PM_T_harm hz) (lw_fit (Nat.le_of_ble_eq_true rfl) (Nat.le_of_ble_eq_true rfl) (by omega) (by omega)) rfl rfl (Nat.le_of_ble_eq_true rfl) d_W_law_928 (fun v108 => ?_)
                                                refine PJ.aload_n (pc := 931) d_W_law_931 rfl ?_
                                                refine PJ.cVI (pc := 932) cs_W_107 (fun z hz => PM_M_harm hz) (lw_fit (Nat.le_of_ble_eq_true rfl) (Nat.le_of_ble_eq_true rfl) (by omega) (by omega)) rfl rfl (Nat.le_of_ble_eq_true rfl) d_W_law_932 (fun v109 => ?_)
                                                refine PJ.icmp_eq (pc := 935) (tgt := 1843) d_W_law_935 (by decide) (fun _ => ?_) (fun _ => ?_)
                                                · refine PJ.iinc (pc := 1843) (v := 6) (L1 := [some (.inr (.inr (some 49))), some (.inr (.inr xr)), some (.inr (.inr mr)), some (.inr (.inr ur)), some (.inl (s.1 + (6 : Int32))), none, none]) d_W_law_1843 rfl (by decide) (Nat.le_of_ble_eq_true rfl) rfl rfl ?_
                                                  refine PJ.goto (pc := 1846) (tgt := 23) d_W_law_1846 (by decide) ?_
                                                  refine PJ.wid (s.2.2.1 + 64) (s.2.2.2 + 700) (by omega) (by omega) ?_
                                                  exact PJ.done rfl
                                                · exact PJ.nn
                                              · refine PJ.swc (pc := 40) (tgt := 940) (off := 900) (21 : Int32) d_W_law_40 (by decide +kernel) (by decide +kernel) (by decide +kernel) (by decide) (fun _ => ?_) (fun _ => ?_)
                                                · refine PJ.aload_n (pc := 940) d_W_law_940 rfl ?_
                                                  refine PJ.aload_n (pc := 941) d_W_law_941 rfl ?_
                                                  refine PJ.iload (pc := 942) d_W_law_942 rfl ?_
                                                  refine PJ.iconst (pc := 944) (v := 1) d_W_law_944 (by decide) ?_
                                                  refine PJ.iadd (pc := 945) d_W_law_945 ?_
                                                  refine PJ.sld (pc := 946) d_W_law_946 (fun v110 => ?_)
                                                  refine PJ.cVI (pc := 947) cs_W_108 (fun z hz => PM_T_raisedBy hz) (lw_fit (Nat.le_of_ble_eq_true rfl) (Nat.le_of_ble_eq_true rfl) (by omega) (by omega)) rfl rfl (Nat.le_of_ble_eq_true rfl) d_W_law_947 (fun v111 => ?_)
                                                  refine PJ.aload_n (pc := 950) d_W_law_950 rfl ?_
                                                  refine PJ.aload_n (pc := 951) d_W_law_951 rfl ?_
                                                  refine PJ.iload (pc := 952) d_W_law_952 rfl ?_
                                                  refine PJ.iconst (pc := 954) (v := 1) d_W_law_954 (by decide) ?_
                                                  refine PJ.iadd (pc := 955) d_W_law_955 ?_
                                                  refine PJ.sld (pc := 956) d_W_law_956 (fun v112 => ?_)
                                                  refine PJ.cVI (pc := 957) cs_W_111 (fun z hz => PM_M_raisedBy hz) (lw_fit (Nat.le_of_ble_eq_true rfl) (Nat.le_of_ble_eq_true rfl) (by omega) (by omega)) rfl rfl (Nat.le_of_ble_eq_true rfl) d_W_law_957 (fun v113 => ?_)
                                                  refine PJ.icmp_eq (pc := 960) (tgt := 1843) d_W_law_960 (by decide) (fun _ => ?_) (fun _ => ?_)
                                                  · refine PJ.iinc (pc := 1843) (v := 6) (L1 := [some (.inr (.inr (some 49))), some (.inr (.inr xr)), some (.inr (.inr mr)), some (.inr (.inr ur)), some (.inl (s.1 + (6 : Int32))), none, none]) d_W_law_1843 rfl (by decide) (Nat.le_of_ble_eq_true rfl) rfl rfl ?_
                                                    refine PJ.goto (pc := 1846) (tgt := 23) d_W_law_1846 (by decide) ?_
                                                    refine PJ.wid (s.2.2.1 + 64) (s.2.2.2 + 700) (by omega) (by omega) ?_
                                                    exact PJ.done rfl
                                                  · exact PJ.nn
                                                · refine PJ.swc (pc := 40) (tgt := 965) (off := 925) (22 : Int32) d_W_law_40 (by decide +kernel) (by decide +kernel) (by decide +kernel) (by decide) (fun _ => ?_) (fun _ => ?_)
                                                  · refine PJ.aload_n (pc := 965) d_W_law_965 rfl ?_
                                                    refine PJ.aload_n (pc := 966) d_W_law_966 rfl ?_
                                                    refine PJ.iload (pc := 967) d_W_law_967 rfl ?_
                                                    refine PJ.iconst (pc := 969) (v := 1) d_W_law_969 (by decide) ?_
                                                    refine PJ.iadd (pc := 970) d_W_law_970 ?_
                                                    refine PJ.sld (pc := 971) d_W_law_971 (fun v114 => ?_)
                                                    refine PJ.cVI (pc := 972) cs_W_112 (fun z hz => PM_T_harmBy hz) (lw_fit (Nat.le_of_ble_eq_true rfl) (Nat.le_of_ble_eq_true rfl) (by omega) (by omega)) rfl rfl (Nat.le_of_ble_eq_true rfl) d_W_law_972 (fun v115 => ?_)
                                                    refine PJ.aload_n (pc := 975) d_W_law_975 rfl ?_
                                                    refine PJ.aload_n (pc := 976) d_W_law_976 rfl ?_
                                                    refine PJ.iload (pc := 977) d_W_law_977 rfl ?_
                                                    refine PJ.iconst (pc := 979) (v := 1) d_W_law_979 (by decide) ?_
                                                    refine PJ.iadd (pc := 980) d_W_law_980 ?_
                                                    refine PJ.sld (pc := 981) d_W_law_981 (fun v116 => ?_)
                                                    refine PJ.cVI (pc := 982) cs_W_115 (fun z hz => PM_M_harmBy hz) (lw_fit (Nat.le_of_ble_eq_true rfl) (Nat.le_of_ble_eq_true rfl) (by omega) (by omega)) rfl rfl (Nat.le_of_ble_eq_true rfl) d_W_law_982 (fun v117 => ?_)
                                                    refine PJ.icmp_eq (pc := 985) (tgt := 1843) d_W_law_985 (by decide) (fun _ => ?_) (fun _ => ?_)
                                                    · refine PJ.iinc (pc := 1843) (v := 6) (L1 := [some (.inr (.inr (some 49))), some (.inr (.inr xr)), some (.inr (.inr mr)), some (.inr (.inr ur)), some (.inl (s.1 + (6 : Int32))), none, none]) d_W_law_1843 rfl (by decide) (Nat.le_of_ble_eq_true rfl) rfl rfl ?_
                                                      refine PJ.goto (pc := 1846) (tgt := 23) d_W_law_1846 (by decide) ?_
                                                      refine PJ.wid (s.2.2.1 + 64) (s.2.2.2 + 700) (by omega) (by omega) ?_
                                                      exact PJ.done rfl
                                                    · exact PJ.nn
                                                  · refine PJ.swc (pc := 40) (tgt := 990) (off := 950) (23 : Int32) d_W_law_40 (by decide +kernel) (by decide +kernel) (by decide +kernel) (by decide) (fun _ => ?_) (fun _ => ?_)
                                                    · refine PJ.aload_n (pc := 990) d_W_law_990 rfl ?_
                                                      refine PJ.cVI (pc := 991) cs_W_116 (fun z hz => PM_T_bestTable hz) (lw_fit (Nat.le_of_ble_eq_true rfl) (Nat.le_of_ble_eq_true rfl) (by omega) (by omega)) rfl rfl (Nat.le_of_ble_eq_true rfl) d_W_law_991 (fun v118 => ?_)
                                                      refine PJ.aload_n (pc := 994) d_W_law_994 rfl ?_
                                                      refine PJ.cVI (pc := 995) cs_W_119 (fun z hz => PM_M_bestTable hz) (lw_fit (Nat.le_of_ble_eq_true rfl) (Nat.le_of_ble_eq_true rfl) (by omega) (by omega)) rfl rfl (Nat.le_of_ble_eq_true rfl) d_W_law_995 (fun v119 => ?_)
                                                      refine PJ.icmp_eq (pc := 998) (tgt := 1843) d_W_law_998 (by decide) (fun _ => ?_) (fun _ => ?_)
                                                      · refine PJ.iinc (pc := 1843) (v := 6) (L1 := [some (.inr (.inr (some 49))), some (.inr (.inr xr)), some (.inr (.inr mr)), some (.inr (.inr ur)), some (.inl (s.1 + (6 : Int32))), none, none]) d_W_law_1843 rfl (by decide) (Nat.le_of_ble_eq_true rfl) rfl rfl ?_
                                                        refine PJ.goto (pc := 1846) (tgt := 23) d_W_law_1846 (by decide) ?_
                                                        refine PJ.wid (s.2.2.1 + 64) (s.2.2.2 + 700) (by omega) (by omega) ?_
                                                        exact PJ.done rfl
                                                      · exact PJ.nn
                                                    · refine PJ.swc (pc := 40) (tgt := 1003) (off := 963) (24 : Int32) d_W_law_40 (by decide +kernel) (by decide +kernel) (by decide +kernel) (by decide) (fun _ => ?_) (fun _ => ?_)
                                                      · refine PJ.aload_n (pc := 1003) d_W_law_1003 rfl ?_
                                                        refine PJ.aload_n (pc := 1004) d_W_law_1004 rfl ?_
                                                        refine PJ.iload (pc := 1005) d_W_law_1005 rfl ?_
                                                        refine PJ.iconst (pc := 1007) (v := 1) d_W_law_1007 (by decide) ?_
                                                        refine PJ.iadd (pc := 1008) d_W_law_1008 ?_
                                                        refine PJ.sld (pc := 1009) d_W_law_1009 (fun v120 => ?_)
                                                        refine PJ.cVI (pc := 1010) cs_W_120 (fun z hz => PM_T_raisedThird hz) (lw_fit (Nat.le_of_ble_eq_true rfl) (Nat.le_of_ble_eq_true rfl) (by omega) (by omega)) rfl rfl (Nat.le_of_ble_eq_true rfl) d_W_law_1010 (fun v121 => ?_)
                                                        refine PJ.aload_n (pc := 1013) d_W_law_1013 rfl ?_
                                                        refine PJ.aload_n (pc := 1014) d_W_law_1014 rfl ?_
                                                        refine PJ.iload (pc := 1015) d_W_law_1015 rfl ?_
                                                        refine PJ.iconst (pc := 1017) (v := 1) d_W_law_1017 (by decide) ?_
                                                        refine PJ.iadd (pc := 1018) d_W_law_1018 ?_
                                                        refine PJ.sld (pc := 1019) d_W_law_1019 (fun v122 => ?_)
                                                        refine PJ.cVI (pc := 1020) cs_W_123 (fun z hz => PM_M_raisedThird hz) (lw_fit (Nat.le_of_ble_eq_true rfl) (Nat.le_of_ble_eq_true rfl) (by omega) (by omega)) rfl rfl (Nat.le_of_ble_eq_true rfl) d_W_law_1020 (fun v123 => ?_)
                                                        refine PJ.icmp_eq (pc := 1023) (tgt := 1843) d_W_law_1023 (by decide) (fun _ => ?_) (fun _ => ?_)
                                                        · refine PJ.iinc (pc := 1843) (v := 6) (L1 := [some (.inr (.inr (some 49))), some (.inr (.inr xr)), some (.inr (.inr mr)), some (.inr (.inr ur)), some (.inl (s.1 + (6 : Int32))), none, none]) d_W_law_1843 rfl (by decide) (Nat.le_of_ble_eq_true rfl) rfl rfl ?_
                                                          refine PJ.goto (pc := 1846) (tgt := 23) d_W_law_1846 (by decide) ?_
                                                          refine PJ.wid (s.2.2.1 + 64) (s.2.2.2 + 700) (by omega) (by omega) ?_
                                                          exact PJ.done rfl
                                                        · exact PJ.nn
                                                      · refine PJ.swc (pc := 40) (tgt := 1028) (off := 988) (25 : Int32) d_W_law_40 (by decide +kernel) (by decide +kernel) (by decide +kernel) (by decide) (fun _ => ?_) (fun _ => ?_)
                                                        · refine PJ.aload_n (pc := 1028) d_W_law_1028 rfl ?_
                                                          refine PJ.aload_n (pc := 1029) d_W_law_1029 rfl ?_
                                                          refine PJ.iload (pc := 1030) d_W_law_1030 rfl ?_
                                                          refine PJ.iconst (pc := 1032) (v := 1) d_W_law_1032 (by decide) ?_
                                                          refine PJ.iadd (pc := 1033) d_W_law_1033 ?_
                                                          refine PJ.sld (pc := 1034) d_W_law_1034 (fun v124 => ?_)
                                                          refine PJ.cVI (pc := 1035) cs_W_124 (fun z hz => PM_T_harmThird hz) (lw_fit (Nat.le_of_ble_eq_true rfl) (Nat.le_of_ble_eq_true rfl) (by omega) (by omega)) rfl rfl (Nat.le_of_ble_eq_true rfl) d_W_law_1035 (fun v125 => ?_)
                                                          refine PJ.aload_n (pc := 1038) d_W_law_1038 rfl ?_
                                                          refine PJ.aload_n (pc := 1039) d_W_law_1039 rfl ?_
                                                          refine PJ.iload (pc := 1040) d_W_law_1040 rfl ?_
                                                          refine PJ.iconst (pc := 1042) (v := 1) d_W_law_1042 (by decide) ?_
                                                          refine PJ.iadd (pc := 1043) d_W_law_1043 ?_
                                                          refine PJ.sld (pc := 1044) d_W_law_1044 (fun v126 => ?_)
                                                          refine PJ.cVI (pc := 1045) cs_W_127 (fun z hz => PM_M_harmThird hz) (lw_fit (Nat.le_of_ble_eq_true rfl) (Nat.le_of_ble_eq_true rfl) (by omega) (by omega)) rfl rfl (Nat.le_of_ble_eq_true rfl) d_W_law_1045 (fun v127 => ?_)
                                                          refine PJ.icmp_eq (pc := 1048) (tgt := 1843) d_W_law_1048 (by decide) (fun _ => ?_) (fun _ => ?_)
                                                          · refine PJ.iinc (pc := 1843) (v := 6) (L1 := [some (.inr (.inr (some 49))), some (.inr (.inr xr)), some (.inr (.inr mr)), some (.inr (.inr ur)), some (.inl (s.1 + (6 : Int32))), none, none]) d_W_law_1843 rfl (by decide) (Nat.le_of_ble_eq_true rfl) rfl rfl ?_
                                                            refine PJ.goto (pc := 1846) (tgt := 23) d_W_law_1846 (by decide) ?_
                                                            refine PJ.wid (s.2.2.1 + 64) (s.2.2.2 + 700) (by omega) (by omega) ?_
                                                            exact PJ.done rfl
                                                          · exact PJ.nn
                                                        · refine PJ.swc (pc := 40) (tgt := 1053) (off := 1013) (26 : Int32) d_W_law_40 (by decide +kernel) (by decide +kernel) (by decide +kernel) (by decide) (fun _ => ?_) (fun _ => ?_)
                                                          · refine PJ.aload_n (pc := 1053) d_W_law_1053 rfl ?_
                                                            refine PJ.cVI (pc := 1054) cs_W_128 (fun z hz => PM_T_stillTable hz) (lw_fit (Nat.le_of_ble_eq_true rfl) (Nat.le_of_ble_eq_true rfl) (by omega) (by omega)) rfl rfl (Nat.le_of_ble_eq_true rfl) d_W_law_1054 (fun v128 => ?_)
                                                            refine PJ.aload_n (pc := 1057) d_W_law_1057 rfl ?_
                                                            refine PJ.cVI (pc := 1058) cs_W_131 (fun z hz => PM_M_stillTable hz) (lw_fit (Nat.le_of_ble_eq_true rfl) (Nat.le_of_ble_eq_true rfl) (by omega) (by omega)) rfl rfl (Nat.le_of_ble_eq_true rfl) d_W_law_1058 (fun v129 => ?_)
                                                            refine PJ.icmp_eq (pc := 1061) (tgt := 1843) d_W_law_1061 (by decide) (fun _ => ?_) (fun _ => ?_)
                                                            · refine PJ.iinc (pc := 1843) (v := 6) (L1 := [some (.inr (.inr (some 49))), some (.inr (.inr xr)), some (.inr (.inr mr)), some (.inr (.inr ur)), some (.inl (s.1 + (6 : Int32))), none, none]) d_W_law_1843 rfl (by decide) (Nat.le_of_ble_eq_true rfl) rfl rfl ?_
                                                              refine PJ.goto (pc := 1846) (tgt := 23) d_W_law_1846 (by decide) ?_
                                                              refine PJ.wid (s.2.2.1 + 64) (s.2.2.2 + 700) (by omega) (by omega) ?_
                                                              exact PJ.done rfl
                                                            · exact PJ.nn
                                                          · refine PJ.swc (pc := 40) (tgt := 1066) (off := 1026) (27 : Int32) d_W_law_40 (by decide +kernel) (by decide +kernel) (by decide +kernel) (by decide) (fun _ => ?_) (fun _ => ?_)
                                                            · refine PJ.aload_n (pc := 1066) d_W_law_1066 rfl ?_
                                                              refine PJ.aload_n (pc := 1067) d_W_law_1067 rfl ?_
                                                              refine PJ.iload (pc := 1068) d_W_law_1068 rfl ?_
                                                              refine PJ.iconst (pc := 1070) (v := 1) d_W_law_1070 (by decide) ?_
                                                              refine PJ.iadd (pc := 1071) d_W_law_1071 ?_
                                                              refine PJ.sld (pc := 1072) d_W_law_1072 (fun v130 => ?_)
                                                              refine PJ.cVI (pc := 1073) cs_W_132 (fun z hz => PM_T_rows hz) (lw_fit (Nat.le_of_ble_eq_true rfl) (Nat.le_of_ble_eq_true rfl) (by omega) (by omega)) rfl rfl (Nat.le_of_ble_eq_true rfl) d_W_law_1073 (fun v131 => ?_)
                                                              refine PJ.aload_n (pc := 1076) d_W_law_1076 rfl ?_
                                                              refine PJ.aload_n (pc := 1077) d_W_law_1077 rfl ?_
                                                              refine PJ.iload (pc := 1078) d_W_law_1078 rfl ?_
                                                              refine PJ.iconst (pc := 1080) (v := 1) d_W_law_1080 (by decide) ?_
                                                              refine PJ.iadd (pc := 1081) d_W_law_1081 ?_
                                                              refine PJ.sld (pc := 1082) d_W_law_1082 (fun v132 => ?_)
                                                              refine PJ.cVI (pc := 1083) cs_W_135 (fun z hz => PM_M_rows hz) (lw_fit (Nat.le_of_ble_eq_true rfl) (Nat.le_of_ble_eq_true rfl) (by omega) (by omega)) rfl rfl (Nat.le_of_ble_eq_true rfl) d_W_law_1083 (fun v133 => ?_)
                                                              refine PJ.icmp_eq (pc := 1086) (tgt := 1843) d_W_law_1086 (by decide) (fun _ => ?_) (fun _ => ?_)
                                                              · refine PJ.iinc (pc := 1843) (v := 6) (L1 := [some (.inr (.inr (some 49))), some (.inr (.inr xr)), some (.inr (.inr mr)), some (.inr (.inr ur)), some (.inl (s.1 + (6 : Int32))), none, none]) d_W_law_1843 rfl (by decide) (Nat.le_of_ble_eq_true rfl) rfl rfl ?_
                                                                refine PJ.goto (pc := 1846) (tgt := 23) d_W_law_1846 (by decide) ?_
                                                                refine PJ.wid (s.2.2.1 + 64) (s.2.2.2 + 700) (by omega) (by omega) ?_
                                                                exact PJ.done rfl
                                                              · exact PJ.nn
                                                            · refine PJ.swc (pc := 40) (tgt := 1091) (off := 1051) (28 : Int32) d_W_law_40 (by decide +kernel) (by decide +kernel) (by decide +kernel) (by decide) (fun _ => ?_) (fun _ => ?_)
                                                              · refine PJ.aload_n (pc := 1091) d_W_law_1091 rfl ?_
                                                                refine PJ.aload_n (pc := 1092) d_W_law_1092 rfl ?_
                                                                refine PJ.iload (pc := 1093) d_W_law_1093 rfl ?_
                                                                refine PJ.iconst (pc := 1095) (v := 1) d_W_law_1095 (by decide) ?_
                                                                refine PJ.iadd (pc := 1096) d_W_law_1096 ?_
                                                                refine PJ.sld (pc := 1097) d_W_law_1097 (fun v134 => ?_)
                                                                refine PJ.cVI (pc := 1098) cs_W_136 (fun z hz => PM_T_could hz) (lw_fit (Nat.le_of_ble_eq_true rfl) (Nat.le_of_ble_eq_true rfl) (by omega) (by omega)) rfl rfl (Nat.le_of_ble_eq_true rfl) d_W_law_1098 (fun v135 => ?_)
                                                                refine PJ.aload_n (pc := 1101) d_W_law_1101 rfl ?_
                                                                refine PJ.aload_n (pc := 1102) d_W_law_1102 rfl ?_
                                                                refine PJ.iload (pc := 1103) d_W_law_1103 rfl ?_
                                                                refine PJ.iconst (pc := 1105) (v := 1) d_W_law_1105 (by decide) ?_
                                                                refine PJ.iadd (pc := 1106) d_W_law_1106 ?_
                                                                refine PJ.sld (pc := 1107) d_W_law_1107 (fun v136 => ?_)
                                                                refine PJ.cVI (pc := 1108) cs_W_139 (fun z hz => PM_M_could hz) (lw_fit (Nat.le_of_ble_eq_true rfl) (Nat.le_of_ble_eq_true rfl) (by omega) (by omega)) rfl rfl (Nat.le_of_ble_eq_true rfl) d_W_law_1108 (fun v137 => ?_)
                                                                refine PJ.icmp_eq (pc := 1111) (tgt := 1843) d_W_law_1111 (by decide) (fun _ => ?_) (fun _ => ?_)
                                                                · refine PJ.iinc (pc := 1843) (v := 6) (L1 := [some (.inr (.inr (some 49))), some (.inr (.inr xr)), some (.inr (.inr mr)), some (.inr (.inr ur)), some (.inl (s.1 + (6 : Int32))), none, none]) d_W_law_1843 rfl (by decide) (Nat.le_of_ble_eq_true rfl) rfl rfl ?_
                                                                  refine PJ.goto (pc := 1846) (tgt := 23) d_W_law_1846 (by decide) ?_
                                                                  refine PJ.wid (s.2.2.1 + 64) (s.2.2.2 + 700) (by omega) (by omega) ?_
                                                                  exact PJ.done rfl
                                                                · exact PJ.nn
                                                              · refine PJ.swc (pc := 40) (tgt := 1116) (off := 1076) (29 : Int32) d_W_law_40 (by decide +kernel) (by decide +kernel) (by decide +kernel) (by decide) (fun _ => ?_) (fun _ => ?_)
                                                                · refine PJ.aload_n (pc := 1116) d_W_law_1116 rfl ?_
                                                                  refine PJ.aload_n (pc := 1117) d_W_law_1117 rfl ?_
                                                                  refine PJ.iload (pc := 1118) d_W_law_1118 rfl ?_
                                                                  refine PJ.iconst (pc := 1120) (v := 1) d_W_law_1120 (by decide) ?_
                                                                  refine PJ.iadd (pc := 1121) d_W_law_1121 ?_
                                                                  refine PJ.sld (pc := 1122) d_W_law_1122 (fun v138 => ?_)
                                                                  refine PJ.cVI (pc := 1123) cs_W_140 (fun z hz => PM_T_surely hz) (lw_fit (Nat.le_of_ble_eq_true rfl) (Nat.le_of_ble_eq_true rfl) (by omega) (by omega)) rfl rfl (Nat.le_of_ble_eq_true rfl) d_W_law_1123 (fun v139 => ?_)
                                                                  refine PJ.aload_n (pc := 1126) d_W_law_1126 rfl ?_
                                                                  refine PJ.aload_n (pc := 1127) d_W_law_1127 rfl ?_
                                                                  refine PJ.iload (pc := 1128) d_W_law_1128 rfl ?_
                                                                  refine PJ.iconst (pc := 1130) (v := 1) d_W_law_1130 (by decide) ?_
                                                                  refine PJ.iadd (pc := 1131) d_W_law_1131 ?_
                                                                  refine PJ.sld (pc := 1132) d_W_law_1132 (fun v140 => ?_)
                                                                  refine PJ.cVI (pc := 1133) cs_W_143 (fun z hz => PM_M_surely hz) (lw_fit (Nat.le_of_ble_eq_true rfl) (Nat.le_of_ble_eq_true rfl) (by omega) (by omega)) rfl rfl (Nat.le_of_ble_eq_true rfl) d_W_law_1133 (fun v141 => ?_)
                                                                  refine PJ.icmp_eq (pc := 1136) (tgt := 1843) d_W_law_1136 (by decide) (fun _ => ?_) (fun _ => ?_)
                                                                  · refine PJ.iinc (pc := 1843) (v := 6) (L1 := [some (.inr (.inr (some 49))), some (.inr (.inr xr)), some (.inr (.inr mr)), some (.inr (.inr ur)), some (.inl (s.1 + (6 : Int32))), none, none]) d_W_law_1843 rfl (by decide) (Nat.le_of_ble_eq_true rfl) rfl rfl ?_
                                                                    refine PJ.goto (pc := 1846) (tgt := 23) d_W_law_1846 (by decide) ?_
                                                                    refine PJ.wid (s.2.2.1 + 64) (s.2.2.2 + 700) (by omega) (by omega) ?_
                                                                    exact PJ.done rfl
                                                                  · exact PJ.nn
                                                                · refine PJ.swc (pc := 40) (tgt := 1141) (off := 1101) (30 : Int32) d_W_law_40 (by decide +kernel) (by decide +kernel) (by decide +kernel) (by decide) (fun _ => ?_) (fun _ => ?_)
                                                                  · refine PJ.aload_n (pc := 1141) d_W_law_1141 rfl ?_
                                                                    refine PJ.aload_n (pc := 1142) d_W_law_1142 rfl ?_
                                                                    refine PJ.iload (pc := 1143) d_W_law_1143 rfl ?_
                                                                    refine PJ.iconst (pc := 1145) (v := 1) d_W_law_1145 (by decide) ?_
                                                                    refine PJ.iadd (pc := 1146) d_W_law_1146 ?_
                                                                    refine PJ.sld (pc := 1147) d_W_law_1147 (fun v142 => ?_)
                                                                    refine PJ.cVI (pc := 1148) cs_W_144 (fun z hz => PM_T_firstOf hz) (lw_fit (Nat.le_of_ble_eq_true rfl) (Nat.le_of_ble_eq_true rfl) (by omega) (by omega)) rfl rfl (Nat.le_of_ble_eq_true rfl) d_W_law_1148 (fun v143 => ?_)
                                                                    refine PJ.aload_n (pc := 1151) d_W_law_1151 rfl ?_
                                                                    refine PJ.aload_n (pc := 1152) d_W_law_1152 rfl ?_
                                                                    refine PJ.iload (pc := 1153) d_W_law_1153 rfl ?_
                                                                    refine PJ.iconst (pc := 1155) (v := 1) d_W_law_1155 (by decide) ?_
                                                                    refine PJ.iadd (pc := 1156) d_W_law_1156 ?_
                                                                    refine PJ.sld (pc := 1157) d_W_law_1157 (fun v144 => ?_)
                                                                    refine PJ.cVI (pc := 1158) cs_W_147 (fun z hz => PM_M_firstOf hz) (lw_fit (Nat.le_of_ble_eq_true rfl) (Nat.le_of_ble_eq_true rfl) (by omega) (by omega)) rfl rfl (Nat.le_of_ble_eq_true rfl) d_W_law_1158 (fun v145 => ?_)
                                                                    refine PJ.icmp_eq (pc := 1161) (tgt := 1843) d_W_law_1161 (by decide) (fun _ => ?_) (fun _ => ?_)
                                                                    · refine PJ.iinc (pc := 1843) (v := 6) (L1 := [some (.inr (.inr (some 49))), some (.inr (.inr xr)), some (.inr (.inr mr)), some (.inr (.inr ur)), some (.inl (s.1 + (6 : Int32))), none, none]) d_W_law_1843 rfl (by decide) (Nat.le_of_ble_eq_true rfl) rfl rfl ?_
                                                                      refine PJ.goto (pc := 1846) (tgt := 23) d_W_law_1846 (by decide) ?_
                                                                      refine PJ.wid (s.2.2.1 + 64) (s.2.2.2 + 700) (by omega) (by omega) ?_
                                                                      exact PJ.done rfl
                                                                    · exact PJ.nn
                                                                  · refine PJ.swc (pc := 40) (tgt := 1166) (off := 1126) (31 : Int32) d_W_law_40 (by decide +kernel) (by decide +kernel) (by decide +kernel) (by decide) (fun _ => ?_) (fun _ => ?_)
                                                                    · refine PJ.aload_n (pc := 1166) d_W_law_1166 rfl ?_
                                                                      refine PJ.cVI (pc := 1167) cs_W_148 (fun z hz => PM_T_ask hz) (lw_fit (Nat.le_of_ble_eq_true rfl) (Nat.le_of_ble_eq_true rfl) (by omega) (by omega)) rfl rfl (Nat.le_of_ble_eq_true rfl) d_W_law_1167 (fun v146 => ?_)
                                                                      refine PJ.aload_n (pc := 1170) d_W_law_1170 rfl ?_
                                                                      refine PJ.cVI (pc := 1171) cs_W_151 (fun z hz => PM_M_ask hz) (lw_fit (Nat.le_of_ble_eq_true rfl) (Nat.le_of_ble_eq_true rfl) (by omega) (by omega)) rfl rfl (Nat.le_of_ble_eq_true rfl) d_W_law_1171 (fun v147 => ?_)
                                                                      refine PJ.icmp_eq (pc := 1174) (tgt := 1843) d_W_law_1174 (by decide) (fun _ => ?_) (fun _ => ?_)
                                                                      · refine PJ.iinc (pc := 1843) (v := 6) (L1 := [some (.inr (.inr (some 49))), some (.inr (.inr xr)), some (.inr (.inr mr)), some (.inr (.inr ur)), some (.inl (s.1 + (6 : Int32))), none, none]) d_W_law_1843 rfl (by decide) (Nat.le_of_ble_eq_true rfl) rfl rfl ?_
                                                                        refine PJ.goto (pc := 1846) (tgt := 23) d_W_law_1846 (by decide) ?_
                                                                        refine PJ.wid (s.2.2.1 + 64) (s.2.2.2 + 700) (by omega) (by omega) ?_
                                                                        exact PJ.done rfl
                                                                      · exact PJ.nn
                                                                    · refine PJ.swc (pc := 40) (tgt := 1179) (off := 1139) (32 : Int32) d_W_law_40 (by decide +kernel) (by decide +kernel) (by decide +kernel) (by decide) (fun _ => ?_) (fun _ => ?_)
                                                                      · refine PJ.aload_n (pc := 1179) d_W_law_1179 rfl ?_
                                                                        refine PJ.cVI (pc := 1180) cs_W_152 (fun z hz => PM_T_askLeaves hz) (lw_fit (Nat.le_of_ble_eq_true rfl) (Nat.le_of_ble_eq_true rfl) (by omega) (by omega)) rfl rfl (Nat.le_of_ble_eq_true rfl) d_W_law_1180 (fun v148 => ?_)
                                                                        refine PJ.aload_n (pc := 1183) d_W_law_1183 rfl ?_
                                                                        refine PJ.cVI (pc := 1184) cs_W_155 (fun z hz => PM_M_askLeaves hz) (lw_fit (Nat.le_of_ble_eq_true rfl) (Nat.le_of_ble_eq_true rfl) (by omega) (by omega)) rfl rfl (Nat.le_of_ble_eq_true rfl) d_W_law_1184 (fun v149 => ?_)
                                                                        refine PJ.icmp_eq (pc := 1187) (tgt := 1843) d_W_law_1187 (by decide) (fun _ => ?_) (fun _ => ?_)
                                                                        · refine PJ.iinc (pc := 1843) (v := 6) (L1 := [some (.inr (.inr (some 49))), some (.inr (.inr xr)), some (.inr (.inr mr)), some (.inr (.inr ur)), some (.inl (s.1 + (6 : Int32))), none, none]) d_W_law_1843 rfl (by decide) (Nat.le_of_ble_eq_true rfl) rfl rfl ?_
                                                                          refine PJ.goto (pc := 1846) (tgt := 23) d_W_law_1846 (by decide) ?_
                                                                          refine PJ.wid (s.2.2.1 + 64) (s.2.2.2 + 700) (by omega) (by omega) ?_
                                                                          exact PJ.done rfl
                                                                        · exact PJ.nn
                                                                      · refine PJ.swc (pc := 40) (tgt := 1192) (off := 1152) (33 : Int32) d_W_law_40 (by decide +kernel) (by decide +kernel) (by decide +kernel) (by decide) (fun _ => ?_) (fun _ => ?_)
                                                                        · refine PJ.aload_n (pc := 1192) d_W_law_1192 rfl ?_
                                                                          refine PJ.cVI (pc := 1193) cs_W_156 (fun z hz => PM_T_liar hz) (lw_fit (Nat.le_of_ble_eq_true rfl) (Nat.le_of_ble_eq_true rfl) (by omega) (by omega)) rfl rfl (Nat.le_of_ble_eq_true rfl) d_W_law_1193 (fun v150 => ?_)
                                                                          refine PJ.aload_n (pc := 1196) d_W_law_1196 rfl ?_
                                                                          refine PJ.cVI (pc := 1197) cs_W_159 (fun z hz => PM_M_liar hz) (lw_fit (Nat.le_of_ble_eq_true rfl) (Nat.le_of_ble_eq_true rfl) (by omega) (by omega)) rfl rfl (Nat.le_of_ble_eq_true rfl) d_W_law_1197 (fun v151 => ?_)
                                                                          refine PJ.icmp_eq (pc := 1200) (tgt := 1843) d_W_law_1200 (by decide) (fun _ => ?_) (fun _ => ?_)
                                                                          · refine PJ.iinc (pc := 1843) (v := 6) (L1 := [some (.inr (.inr (some 49))), some (.inr (.inr xr)), some (.inr (.inr mr)), some (.inr (.inr ur)), some (.inl (s.1 + (6 : Int32))), none, none]) d_W_law_1843 rfl (by decide) (Nat.le_of_ble_eq_true rfl) rfl rfl ?_
                                                                            refine PJ.goto (pc := 1846) (tgt := 23) d_W_law_1846 (by decide) ?_
                                                                            refine PJ.wid (s.2.2.1 + 64) (s.2.2.2 + 700) (by omega) (by omega) ?_
                                                                            exact PJ.done rfl
                                                                          · exact PJ.nn
                                                                        · refine PJ.swc (pc := 40) (tgt := 1205) (off := 1165) (34 : Int32) d_W_law_40 (by decide +kernel) (by decide +kernel) (by decide +kernel) (by decide) (fun _ => ?_) (fun _ => ?_)
                                                                          · refine PJ.aload_n (pc := 1205) d_W_law_1205 rfl ?_
                                                                            refine PJ.aload_n (pc := 1206) d_W_law_1206 rfl ?_
                                                                            refine PJ.iload (pc := 1207) d_W_law_1207 rfl ?_
                                                                            refine PJ.iconst (pc := 1209) (v := 1) d_W_law_1209 (by decide) ?_
                                                                            refine PJ.iadd (pc := 1210) d_W_law_1210 ?_
                                                                            refine PJ.sld (pc := 1211) d_W_law_1211 (fun v152 => ?_)
                                                                            refine PJ.cVI (pc := 1212) cs_W_160 (fun z hz => PM_T_caught hz) (lw_fit (Nat.le_of_ble_eq_true rfl) (Nat.le_of_ble_eq_true rfl) (by omega) (by omega)) rfl rfl (Nat.le_of_ble_eq_true rfl) d_W_law_1212 (fun v153 => ?_)
                                                                            refine PJ.aload_n (pc := 1215) d_W_law_1215 rfl ?_
                                                                            refine PJ.aload_n (pc := 1216) d_W_law_1216 rfl ?_
                                                                            refine PJ.iload (pc := 1217) d_W_law_1217 rfl ?_
                                                                            refine PJ.iconst (pc := 1219) (v := 1) d_W_law_1219 (by decide) ?_
                                                                            refine PJ.iadd (pc := 1220) d_W_law_1220 ?_
                                                                            refine PJ.sld (pc := 1221) d_W_law_1221 (fun v154 => ?_)
                                                                            refine PJ.cVI (pc := 1222) cs_W_163 (fun z hz => PM_M_caught hz) (lw_fit (Nat.le_of_ble_eq_true rfl) (Nat.le_of_ble_eq_true rfl) (by omega) (by omega)) rfl rfl (Nat.le_of_ble_eq_true rfl) d_W_law_1222 (fun v155 => ?_)
                                                                            refine PJ.icmp_eq (pc := 1225) (tgt := 1843) d_W_law_1225 (by decide) (fun _ => ?_) (fun _ => ?_)
                                                                            · refine PJ.iinc (pc := 1843) (v := 6) (L1 := [some (.inr (.inr (some 49))), some (.inr (.inr xr)), some (.inr (.inr mr)), some (.inr (.inr ur)), some (.inl (s.1 + (6 : Int32))), none, none]) d_W_law_1843 rfl (by decide) (Nat.le_of_ble_eq_true rfl) rfl rfl ?_
                                                                              refine PJ.goto (pc := 1846) (tgt := 23) d_W_law_1846 (by decide) ?_
                                                                              refine PJ.wid (s.2.2.1 + 64) (s.2.2.2 + 700) (by omega) (by omega) ?_
                                                                              exact PJ.done rfl
                                                                            · exact PJ.nn
                                                                          · refine PJ.swc (pc := 40) (tgt := 1230) (off := 1190) (35 : Int32) d_W_law_40 (by decide +kernel) (by decide +kernel) (by decide +kernel) (by decide) (fun _ => ?_) (fun _ => ?_)
                                                                            · refine PJ.aload_n (pc := 1230) d_W_law_1230 rfl ?_
                                                                              refine PJ.aload_n (pc := 1231) d_W_law_1231 rfl ?_
                                                                              refine PJ.iload (pc := 1232) d_W_law_1232 rfl ?_
                                                                              refine PJ.iconst (pc := 1234) (v := 1) d_W_law_1234 (by decide) ?_
                                                                              refine PJ.iadd (pc := 1235) d_W_law_1235 ?_
                                                                              refine PJ.sld (pc := 1236) d_W_law_1236 (fun v156 => ?_)
                                                                              refine PJ.cVI (pc := 1237) cs_W_164 (fun z hz => PM_T_places hz) (lw_fit (Nat.le_of_ble_eq_true rfl) (Nat.le_of_ble_eq_true rfl) (by omega) (by omega)) rfl rfl (Nat.le_of_ble_eq_true rfl) d_W_law_1237 (fun v157 => ?_)
                                                                              refine PJ.aload_n (pc := 1240) d_W_law_1240 rfl ?_
                                                                              refine PJ.aload_n (pc := 1241) d_W_law_1241 rfl ?_
                                                                              refine PJ.iload (pc := 1242) d_W_law_1242 rfl ?_
                                                                              refine PJ.iconst (pc := 1244) (v := 1) d_W_law_1244 (by decide) ?_
                                                                              refine PJ.iadd (pc := 1245) d_W_law_1245 ?_
                                                                              refine PJ.sld (pc := 1246) d_W_law_1246 (fun v158 => ?_)
                                                                              refine PJ.cVI (pc := 1247) cs_W_167 (fun z hz => PM_M_places hz) (lw_fit (Nat.le_of_ble_eq_true rfl) (Nat.le_of_ble_eq_true rfl) (by omega) (by omega)) rfl rfl (Nat.le_of_ble_eq_true rfl) d_W_law_1247 (fun v159 => ?_)
                                                                              refine PJ.icmp_eq (pc := 1250) (tgt := 1843) d_W_law_1250 (by decide) (fun _ => ?_) (fun _ => ?_)
                                                                              · refine PJ.iinc (pc := 1843) (v := 6) (L1 := [some (.inr (.inr (some 49))), some (.inr (.inr xr)), some (.inr (.inr mr)), some (.inr (.inr ur)), some (.inl (s.1 + (6 : Int32))), none, none]) d_W_law_1843 rfl (by decide) (Nat.le_of_ble_eq_true rfl) rfl rfl ?_
                                                                                refine PJ.goto (pc := 1846) (tgt := 23) d_W_law_1846 (by decide) ?_
                                                                                refine PJ.wid (s.2.2.1 + 64) (s.2.2.2 + 700) (by omega) (by omega) ?_
                                                                                exact PJ.done rfl
                                                                              · exact PJ.nn
                                                                            · refine PJ.swc (pc := 40) (tgt := 1255) (off := 1215) (36 : Int32) d_W_law_40 (by decide +kernel) (by decide +kernel) (by decide +kernel) (by decide) (fun _ => ?_) (fun _ => ?_)
                                                                              · refine PJ.aload_n (pc := 1255) d_W_law_1255 rfl ?_
                                                                                refine PJ.cVI (pc := 1256) cs_W_168 (fun z hz => PM_T_enough hz) (lw_fit (Nat.le_of_ble_eq_true rfl) (Nat.le_of_ble_eq_true rfl) (by omega) (by omega)) rfl rfl (Nat.le_of_ble_eq_true rfl) d_W_law_1256 (fun v160 => ?_)
                                                                                refine PJ.aload_n (pc := 1259) d_W_law_1259 rfl ?_
                                                                                refine PJ.cVI (pc := 1260) cs_W_171 (fun z hz => PM_M_enough hz) (lw_fit (Nat.le_of_ble_eq_true rfl) (Nat.le_of_ble_eq_true rfl) (by omega) (by omega)) rfl rfl (Nat.le_of_ble_eq_true rfl) d_W_law_1260 (fun v161 => ?_)
                                                                                refine PJ.icmp_eq (pc := 1263) (tgt := 1843) d_W_law_1263 (by decide) (fun _ => ?_) (fun _ => ?_)
                                                                                · refine PJ.iinc (pc := 1843) (v := 6) (L1 := [some (.inr (.inr (some 49))), some (.inr (.inr xr)), some (.inr (.inr mr)), some (.inr (.inr ur)), some (.inl (s.1 + (6 : Int32))), none, none]) d_W_law_1843 rfl (by decide) (Nat.le_of_ble_eq_true rfl) rfl rfl ?_
                                                                                  refine PJ.goto (pc := 1846) (tgt := 23) d_W_law_1846 (by decide) ?_
                                                                                  refine PJ.wid (s.2.2.1 + 64) (s.2.2.2 + 700) (by omega) (by omega) ?_
                                                                                  exact PJ.done rfl
                                                                                · exact PJ.nn
                                                                              · refine PJ.swc (pc := 40) (tgt := 1268) (off := 1228) (37 : Int32) d_W_law_40 (by decide +kernel) (by decide +kernel) (by decide +kernel) (by decide) (fun _ => ?_) (fun _ => ?_)
                                                                                · refine PJ.aload_n (pc := 1268) d_W_law_1268 rfl ?_
                                                                                  refine PJ.aload_n (pc := 1269) d_W_law_1269 rfl ?_
                                                                                  refine PJ.iload (pc := 1270) d_W_law_1270 rfl ?_
                                                                                  refine PJ.iconst (pc := 1272) (v := 1) d_W_law_1272 (by decide) ?_
                                                                                  refine PJ.iadd (pc := 1273) d_W_law_1273 ?_
                                                                                  refine PJ.sld (pc := 1274) d_W_law_1274 (fun v162 => ?_)
                                                                                  refine PJ.cVI (pc := 1275) cs_W_172 (fun z hz => PM_T_catches hz) (lw_fit (Nat.le_of_ble_eq_true rfl) (Nat.le_of_ble_eq_true rfl) (by omega) (by omega)) rfl rfl (Nat.le_of_ble_eq_true rfl) d_W_law_1275 (fun v163 => ?_)
                                                                                  refine PJ.aload_n (pc := 1278) d_W_law_1278 rfl ?_
                                                                                  refine PJ.aload_n (pc := 1279) d_W_law_1279 rfl ?_
                                                                                  refine PJ.iload (pc := 1280) d_W_law_1280 rfl ?_
                                                                                  refine PJ.iconst (pc := 1282) (v := 1) d_W_law_1282 (by decide) ?_
                                                                                  refine PJ.iadd (pc := 1283) d_W_law_1283 ?_
                                                                                  refine PJ.sld (pc := 1284) d_W_law_1284 (fun v164 => ?_)
                                                                                  refine PJ.cVI (pc := 1285) cs_W_175 (fun z hz => PM_M_catches hz) (lw_fit (Nat.le_of_ble_eq_true rfl) (Nat.le_of_ble_eq_true rfl) (by omega) (by omega)) rfl rfl (Nat.le_of_ble_eq_true rfl) d_W_law_1285 (fun v165 => ?_)
                                                                                  refine PJ.icmp_eq (pc := 1288) (tgt := 1843) d_W_law_1288 (by decide) (fun _ => ?_) (fun _ => ?_)
                                                                                  · refine PJ.iinc (pc := 1843) (v := 6) (L1 := [some (.inr (.inr (some 49))), some (.inr (.inr xr)), some (.inr (.inr mr)), some (.inr (.inr ur)), some (.inl (s.1 + (6 : Int32))), none, none]) d_W_law_1843 rfl (by decide) (Nat.le_of_ble_eq_true rfl) rfl rfl ?_
                                                                                    refine PJ.goto (pc := 1846) (tgt := 23) d_W_law_1846 (by decide) ?_
                                                                                    refine PJ.wid (s.2.2.1 + 64) (s.2.2.2 + 700) (by omega) (by omega) ?_
                                                                                    exact PJ.done rfl
                                                                                  · exact PJ.nn
                                                                                · refine PJ.swc (pc := 40) (tgt := 1293) (off := 1253) (38 : Int32) d_W_law_40 (by decide +kernel) (by decide +kernel) (by decide +kernel) (by decide) (fun _ => ?_) (fun _ => ?_)
                                                                                  · refine PJ.aload_n (pc := 1293) d_W_law_1293 rfl ?_
                                                                                    refine PJ.aload_n (pc := 1294) d_W_law_1294 rfl ?_
                                                                                    refine PJ.iload (pc := 1295) d_W_law_1295 rfl ?_
                                                                                    refine PJ.iconst (pc := 1297) (v := 1) d_W_law_1297 (by decide) ?_
                                                                                    refine PJ.iadd (pc := 1298) d_W_law_1298 ?_
                                                                                    refine PJ.sld (pc := 1299) d_W_law_1299 (fun v166 => ?_)
                                                                                    refine PJ.aload_n (pc := 1300) d_W_law_1300 rfl ?_
                                                                                    refine PJ.iload (pc := 1301) d_W_law_1301 rfl ?_
                                                                                    refine PJ.iconst (pc := 1303) (v := 2) d_W_law_1303 (by decide) ?_
                                                                                    refine PJ.iadd (pc := 1304) d_W_law_1304 ?_
                                                                                    refine PJ.sld (pc := 1305) d_W_law_1305 (fun v167 => ?_)
                                                                                    refine PJ.bind (fun j168 : Int32 => ((1314 : Nat), ([some (.inr (.inr (some 49))), some (.inr (.inr xr)), some (.inr (.inr mr)), some (.inr (.inr ur)), some (.inl s.1), none, none] : List (Option PV)), ([.inl j168, .inl v166, .inr (.inr xr)] : List PV), (s.2.1 : PH), (s.2.2.1 : Nat), (s.2.2.2 : Nat))) ?_ (fun j168 => ?_)
                                                                                    · refine PJ.if_eq (pc := 1306) (tgt := 1313) d_W_law_1306 (by decide) (fun _ => ?_) (fun _ => ?_)
                                                                                      · refine PJ.iconst (pc := 1313) (v := 0) d_W_law_1313 (by decide) ?_
                                                                                        exact PJ.done rfl
                                                                                      · refine PJ.iconst (pc := 1309) (v := 1) d_W_law_1309 (by decide) ?_
                                                                                        refine PJ.goto (pc := 1310) (tgt := 1314) d_W_law_1310 (by decide) ?_
                                                                                        exact PJ.done rfl
                                                                                    · show PJ l G room_1 Y_W_law 1314 [some (.inr (.inr (some 49))), some (.inr (.inr xr)), some (.inr (.inr mr)), some (.inr (.inr ur)), some (.inl s.1), none, none] [.inl j168, .inl v166, .inr (.inr xr)] s.2.1 s.2.2.1 s.2.2.2 _ _
                                                                                      refine PJ.aload_n (pc := 1314) d_W_law_1314 rfl ?_
                                                                                      refine PJ.iload (pc := 1315) d_W_law_1315 rfl ?_
                                                                                      refine PJ.iconst (pc := 1317) (v := 3) d_W_law_1317 (by decide) ?_
                                                                                      refine PJ.iadd (pc := 1318) d_W_law_1318 ?_
                                                                                      refine PJ.sld (pc := 1319) d_W_law_1319 (fun v169 => ?_)
                                                                                      refine PJ.aload_n (pc := 1320) d_W_law_1320 rfl ?_
                                                                                      refine PJ.iload (pc := 1321) d_W_law_1321 rfl ?_
                                                                                      refine PJ.iconst (pc := 1323) (v := 4) d_W_law_1323 (by decide) ?_
                                                                                      refine PJ.iadd (pc := 1324) d_W_law_1324 ?_
                                                                                      refine PJ.sld (pc := 1325) d_W_law_1325 (fun v170 => ?_)
                                                                                      refine PJ.bind (fun j171 : Int32 => ((1334 : Nat), ([some (.inr (.inr (some 49))), some (.inr (.inr xr)), some (.inr (.inr mr)), some (.inr (.inr ur)), some (.inl s.1), none, none] : List (Option PV)), ([.inl j171, .inl v169, .inl j168, .inl v166, .inr (.inr xr)] : List PV), (s.2.1 : PH), (s.2.2.1 : Nat), (s.2.2.2 : Nat))) ?_ (fun j171 => ?_)
                                                                                      · refine PJ.if_eq (pc := 1326) (tgt := 1333) d_W_law_1326 (by decide) (fun _ => ?_) (fun _ => ?_)
                                                                                        · refine PJ.iconst (pc := 1333) (v := 0) d_W_law_1333 (by decide) ?_
                                                                                          exact PJ.done rfl
                                                                                        · refine PJ.iconst (pc := 1329) (v := 1) d_W_law_1329 (by decide) ?_
                                                                                          refine PJ.goto (pc := 1330) (tgt := 1334) d_W_law_1330 (by decide) ?_
                                                                                          exact PJ.done rfl
                                                                                      · show PJ l G room_1 Y_W_law 1334 [some (.inr (.inr (some 49))), some (.inr (.inr xr)), some (.inr (.inr mr)), some (.inr (.inr ur)), some (.inl s.1), none, none] [.inl j171, .inl v169, .inl j168, .inl v166, .inr (.inr xr)] s.2.1 s.2.2.1 s.2.2.2 _ _
                                                                                        refine PJ.aload_n (pc := 1334) d_W_law_1334 rfl ?_
                                                                                        refine PJ.iload (pc := 1335) d_W_law_1335 rfl ?_
                                                                                        refine PJ.iconst (pc := 1337) (v := 5) d_W_law_1337 (by decide) ?_
                                                                                        refine PJ.iadd (pc := 1338) d_W_law_1338 ?_
                                                                                        refine PJ.sld (pc := 1339) d_W_law_1339 (fun v172 => ?_)
                                                                                        refine PJ.bind (fun j173 : Int32 => ((1348 : Nat), ([some (.inr (.inr (some 49))), some (.inr (.inr xr)), some (.inr (.inr mr)), some (.inr (.inr ur)), some (.inl s.1), none, none] : List (Option PV)), ([.inl j173, .inl j171, .inl v169, .inl j168, .inl v166, .inr (.inr xr)] : List PV), (s.2.1 : PH), (s.2.2.1 : Nat), (s.2.2.2 : Nat))) ?_ (fun j173 => ?_)
                                                                                        · refine PJ.if_eq (pc := 1340) (tgt := 1347) d_W_law_1340 (by decide) (fun _ => ?_) (fun _ => ?_)
                                                                                          · refine PJ.iconst (pc := 1347) (v := 0) d_W_law_1347 (by decide) ?_
                                                                                            exact PJ.done rfl
                                                                                          · refine PJ.iconst (pc := 1343) (v := 1) d_W_law_1343 (by decide) ?_
                                                                                            refine PJ.goto (pc := 1344) (tgt := 1348) d_W_law_1344 (by decide) ?_
                                                                                            exact PJ.done rfl
                                                                                        · show PJ l G room_1 Y_W_law 1348 [some (.inr (.inr (some 49))), some (.inr (.inr xr)), some (.inr (.inr mr)), some (.inr (.inr ur)), some (.inl s.1), none, none] [.inl j173, .inl j171, .inl v169, .inl j168, .inl v166, .inr (.inr xr)] s.2.1 s.2.2.1 s.2.2.2 _ _
                                                                                          refine PJ.cVI (pc := 1348) cs_W_176 (fun z hz => PM_T_two hz) (lw_fit (Nat.le_of_ble_eq_true rfl) (Nat.le_of_ble_eq_true rfl) (by omega) (by omega)) rfl rfl (Nat.le_of_ble_eq_true rfl) d_W_law_1348 (fun v174 => ?_)
                                                                                          refine PJ.aload_n (pc := 1351) d_W_law_1351 rfl ?_
                                                                                          refine PJ.aload_n (pc := 1352) d_W_law_1352 rfl ?_
                                                                                          refine PJ.iload (pc := 1353) d_W_law_1353 rfl ?_
                                                                                          refine PJ.iconst (pc := 1355) (v := 1) d_W_law_1355 (by decide) ?_
                                                                                          refine PJ.iadd (pc := 1356) d_W_law_1356 ?_
                                                                                          refine PJ.sld (pc := 1357) d_W_law_1357 (fun v175 => ?_)
                                                                                          refine PJ.aload_n (pc := 1358) d_W_law_1358 rfl ?_
                                                                                          refine PJ.iload (pc := 1359) d_W_law_1359 rfl ?_
                                                                                          refine PJ.iconst (pc := 1361) (v := 2) d_W_law_1361 (by decide) ?_
                                                                                          refine PJ.iadd (pc := 1362) d_W_law_1362 ?_
                                                                                          refine PJ.sld (pc := 1363) d_W_law_1363 (fun v176 => ?_)
                                                                                          refine PJ.bind (fun j177 : Int32 => ((1372 : Nat), ([some (.inr (.inr (some 49))), some (.inr (.inr xr)), some (.inr (.inr mr)), some (.inr (.inr ur)), some (.inl s.1), none, none] : List (Option PV)), ([.inl j177, .inl v175, .inr (.inr mr), .inl v174.1] : List PV), (v174.2 : PH), (s.2.2.1 : Nat), (s.2.2.2 : Nat))) ?_ (fun j177 => ?_)
                                                                                          · refine PJ.if_eq (pc := 1364) (tgt := 1371) d_W_law_1364 (by decide) (fun _ => ?_) (fun _ => ?_)
                                                                                            · refine PJ.iconst (pc := 1371) (v := 0) d_W_law_1371 (by decide) ?_
                                                                                              exact PJ.done rfl
                                                                                            · refine PJ.iconst (pc := 1367) (v := 1) d_W_law_1367 (by decide) ?_
                                                                                              refine PJ.goto (pc := 1368) (tgt := 1372) d_W_law_1368 (by decide) ?_
                                                                                              exact PJ.done rfl
                                                                                          · show PJ l G room_1 Y_W_law 1372 [some (.inr (.inr (some 49))), some (.inr (.inr xr)), some (.inr (.inr mr)), some (.inr (.inr ur)), some (.inl s.1), none, none] [.inl j177, .inl v175, .inr (.inr mr), .inl v174.1] v174.2 s.2.2.1 s.2.2.2 _ _
                                                                                            refine PJ.aload_n (pc := 1372) d_W_law_1372 rfl ?_
                                                                                            refine PJ.iload (pc := 1373) d_W_law_1373 rfl ?_
                                                                                            refine PJ.iconst (pc := 1375) (v := 3) d_W_law_1375 (by decide) ?_
                                                                                            refine PJ.iadd (pc := 1376) d_W_law_1376 ?_
                                                                                            refine PJ.sld (pc := 1377) d_W_law_1377 (fun v178 => ?_)
                                                                                            refine PJ.aload_n (pc := 1378) d_W_law_1378 rfl ?_
                                                                                            refine PJ.iload (pc := 1379) d_W_law_1379 rfl ?_
                                                                                            refine PJ.iconst (pc := 1381) (v := 4) d_W_law_1381 (by decide) ?_
                                                                                            refine PJ.iadd (pc := 1382) d_W_law_1382 ?_
                                                                                            refine PJ.sld (pc := 1383) d_W_law_1383 (fun v179 => ?_)
                                                                                            refine PJ.bind (fun j180 : Int32 => ((1392 : Nat), ([some (.inr (.inr (some 49))), some (.inr (.inr xr)), some (.inr (.inr mr)), some (.inr (.inr ur)), some (.inl s.1), none, none] : List (Option PV)), ([.inl j180, .inl v178, .inl j177, .inl v175, .inr (.inr mr), .inl v174.1] : List PV), (v174.2 : PH), (s.2.2.1 : Nat), (s.2.2.2 : Nat))) ?_ (fun j180 => ?_)
                                                                                            · refine PJ.if_eq (pc := 1384) (tgt := 1391) d_W_law_1384 (by decide) (fun _ => ?_) (fun _ => ?_)
                                                                                              · refine PJ.iconst (pc := 1391) (v := 0) d_W_law_1391 (by decide) ?_
                                                                                                exact PJ.done rfl
                                                                                              · refine PJ.iconst (pc := 1387) (v := 1) d_W_law_1387 (by decide) ?_
                                                                                                refine PJ.goto (pc := 1388) (tgt := 1392) d_W_law_1388 (by decide) ?_
                                                                                                exact PJ.done rfl
                                                                                            · show PJ l G room_1 Y_W_law 1392 [some (.inr (.inr (some 49))), some (.inr (.inr xr)), some (.inr (.inr mr)), some (.inr (.inr ur)), some (.inl s.1), none, none] [.inl j180, .inl v178, .inl j177, .inl v175, .inr (.inr mr), .inl v174.1] v174.2 s.2.2.1 s.2.2.2 _ _
                                                                                              refine PJ.aload_n (pc := 1392) d_W_law_1392 rfl ?_
                                                                                              refine PJ.iload (pc := 1393) d_W_law_1393 rfl ?_
                                                                                              refine PJ.iconst (pc := 1395) (v := 5) d_W_law_1395 (by decide) ?_
                                                                                              refine PJ.iadd (pc := 1396) d_W_law_1396 ?_
                                                                                              refine PJ.sld (pc := 1397) d_W_law_1397 (fun v181 => ?_)
                                                                                              refine PJ.bind (fun j182 : Int32 => ((1406 : Nat), ([some (.inr (.inr (some 49))), some (.inr (.inr xr)), some (.inr (.inr mr)), some (.inr (.inr ur)), some (.inl s.1), none, none] : List (Option PV)), ([.inl j182, .inl j180, .inl v178, .inl j177, .inl v175, .inr (.inr mr), .inl v174.1] : List PV), (v174.2 : PH), (s.2.2.1 : Nat), (s.2.2.2 : Nat))) ?_ (fun j182 => ?_)
                                                                                              · refine PJ.if_eq (pc := 1398) (tgt := 1405) d_W_law_1398 (by decide) (fun _ => ?_) (fun _ => ?_)
                                                                                                · refine PJ.iconst (pc := 1405) (v := 0) d_W_law_1405 (by decide) ?_
                                                                                                  exact PJ.done rfl
                                                                                                · refine PJ.iconst (pc := 1401) (v := 1) d_W_law_1401 (by decide) ?_
                                                                                                  refine PJ.goto (pc := 1402) (tgt := 1406) d_W_law_1402 (by decide) ?_
                                                                                                  exact PJ.done rfl
                                                                                              · show PJ l G room_1 Y_W_law 1406 [some (.inr (.inr (some 49))), some (.inr (.inr xr)), some (.inr (.inr mr)), some (.inr (.inr ur)), some (.inl s.1), none, none] [.inl j182, .inl j180, .inl v178, .inl j177, .inl v175, .inr (.inr mr), .inl v174.1] v174.2 s.2.2.1 s.2.2.2 _ _
                                                                                                refine PJ.cVI (pc := 1406) cs_W_180 (fun z hz => PM_M_two hz) (lw_fit (Nat.le_of_ble_eq_true rfl) (Nat.le_of_ble_eq_true rfl) (by omega) (by omega)) rfl rfl (Nat.le_of_ble_eq_true rfl) d_W_law_1406 (fun v183 => ?_)
                                                                                                refine PJ.icmp_eq (pc := 1409) (tgt := 1843) d_W_law_1409 (by decide) (fun _ => ?_) (fun _ => ?_)
                                                                                                · refine PJ.iinc (pc := 1843) (v := 6) (L1 := [some (.inr (.inr (some 49))), some (.inr (.inr xr)), some (.inr (.inr mr)), some (.inr (.inr ur)), some (.inl (s.1 + (6 : Int32))), none, none]) d_W_law_1843 rfl (by decide) (Nat.le_of_ble_eq_true rfl) rfl rfl ?_
                                                                                                  refine PJ.goto (pc := 1846) (tgt := 23) d_W_law_1846 (by decide) ?_
                                                                                                  refine PJ.wid (s.2.2.1 + 64) (s.2.2.2 + 700) (by omega) (by omega) ?_
                                                                                                  exact PJ.done rfl
                                                                                                · exact PJ.nn
                                                                                  · refine PJ.swc (pc := 40) (tgt := 1414) (off := 1374) (39 : Int32) d_W_law_40 (by decide +kernel) (by decide +kernel) (by decide +kernel) (by decide) (fun _ => ?_) (fun _ => ?_)
                                                                                    · refine PJ.aload_n (pc := 1414) d_W_law_1414 rfl ?_
                                                                                      refine PJ.aload_n (pc := 1415) d_W_law_1415 rfl ?_
                                                                                      refine PJ.iload (pc := 1416) d_W_law_1416 rfl ?_
                                                                                      refine PJ.iconst (pc := 1418) (v := 1) d_W_law_1418 (by decide) ?_
                                                                                      refine PJ.iadd (pc := 1419) d_W_law_1419 ?_
                                                                                      refine PJ.sld (pc := 1420) d_W_law_1420 (fun v184 => ?_)
                                                                                      refine PJ.aload_n (pc := 1421) d_W_law_1421 rfl ?_
                                                                                      refine PJ.iload (pc := 1422) d_W_law_1422 rfl ?_
                                                                                      refine PJ.iconst (pc := 1424) (v := 2) d_W_law_1424 (by decide) ?_
                                                                                      refine PJ.iadd (pc := 1425) d_W_law_1425 ?_
                                                                                      refine PJ.sld (pc := 1426) d_W_law_1426 (fun v185 => ?_)
                                                                                      refine PJ.cVI (pc := 1427) cs_W_181 (fun z hz => PM_T_rests hz) (lw_fit (Nat.le_of_ble_eq_true rfl) (Nat.le_of_ble_eq_true rfl) (by omega) (by omega)) rfl rfl (Nat.le_of_ble_eq_true rfl) d_W_law_1427 (fun v186 => ?_)
                                                                                      refine PJ.aload_n (pc := 1430) d_W_law_1430 rfl ?_
                                                                                      refine PJ.aload_n (pc := 1431) d_W_law_1431 rfl ?_
                                                                                      refine PJ.iload (pc := 1432) d_W_law_1432 rfl ?_
                                                                                      refine PJ.iconst (pc := 1434) (v := 1) d_W_law_1434 (by decide) ?_
                                                                                      refine PJ.iadd (pc := 1435) d_W_law_1435 ?_
                                                                                      refine PJ.sld (pc := 1436) d_W_law_1436 (fun v187 => ?_)
                                                                                      refine PJ.aload_n (pc := 1437) d_W_law_1437 rfl ?_
                                                                                      refine PJ.iload (pc := 1438) d_W_law_1438 rfl ?_
                                                                                      refine PJ.iconst (pc := 1440) (v := 2) d_W_law_1440 (by decide) ?_
                                                                                      refine PJ.iadd (pc := 1441) d_W_law_1441 ?_
                                                                                      refine PJ.sld (pc := 1442) d_W_law_1442 (fun v188 => ?_)
                                                                                      refine PJ.cVI (pc := 1443) cs_W_184 (fun z hz => PM_M_rests hz) (lw_fit (Nat.le_of_ble_eq_true rfl) (Nat.le_of_ble_eq_true rfl) (by omega) (by omega)) rfl rfl (Nat.le_of_ble_eq_true rfl) d_W_law_1443 (fun v189 => ?_)
                                                                                      refine PJ.icmp_eq (pc := 1446) (tgt := 1843) d_W_law_1446 (by decide) (fun _ => ?_) (fun _ => ?_)
                                                                                      · refine PJ.iinc (pc := 1843) (v := 6) (L1 := [some (.inr (.inr (some 49))), some (.inr (.inr xr)), some (.inr (.inr mr)), some (.inr (.inr ur)), some (.inl (s.1 + (6 : Int32))), none, none]) d_W_law_1843 rfl (by decide) (Nat.le_of_ble_eq_true rfl) rfl rfl ?_
                                                                                        refine PJ.goto (pc := 1846) (tgt := 23) d_W_law_1846 (by decide) ?_
                                                                                        refine PJ.wid (s.2.2.1 + 64) (s.2.2.2 + 700) (by omega) (by omega) ?_
                                                                                        exact PJ.done rfl
                                                                                      · exact PJ.nn
                                                                                    · refine PJ.swc (pc := 40) (tgt := 1451) (off := 1411) (40 : Int32) d_W_law_40 (by decide +kernel) (by decide +kernel) (by decide +kernel) (by decide) (fun _ => ?_) (fun _ => ?_)
                                                                                      · refine PJ.aload_n (pc := 1451) d_W_law_1451 rfl ?_
                                                                                        refine PJ.aload_n (pc := 1452) d_W_law_1452 rfl ?_
                                                                                        refine PJ.iload (pc := 1453) d_W_law_1453 rfl ?_
                                                                                        refine PJ.iconst (pc := 1455) (v := 1) d_W_law_1455 (by decide) ?_
                                                                                        refine PJ.iadd (pc := 1456) d_W_law_1456 ?_
                                                                                        refine PJ.sld (pc := 1457) d_W_law_1457 (fun v190 => ?_)
                                                                                        refine PJ.aload_n (pc := 1458) d_W_law_1458 rfl ?_
                                                                                        refine PJ.iload (pc := 1459) d_W_law_1459 rfl ?_
                                                                                        refine PJ.iconst (pc := 1461) (v := 2) d_W_law_1461 (by decide) ?_
                                                                                        refine PJ.iadd (pc := 1462) d_W_law_1462 ?_
                                                                                        refine PJ.sld (pc := 1463) d_W_law_1463 (fun v191 => ?_)
                                                                                        refine PJ.cVI (pc := 1464) cs_W_185 (fun z hz => PM_T_rest hz) (lw_fit (Nat.le_of_ble_eq_true rfl) (Nat.le_of_ble_eq_true rfl) (by omega) (by omega)) rfl rfl (Nat.le_of_ble_eq_true rfl) d_W_law_1464 (fun v192 => ?_)
                                                                                        refine PJ.aload_n (pc := 1467) d_W_law_1467 rfl ?_
                                                                                        refine PJ.aload_n (pc := 1468) d_W_law_1468 rfl ?_
                                                                                        refine PJ.iload (pc := 1469) d_W_law_1469 rfl ?_
                                                                                        refine PJ.iconst (pc := 1471) (v := 1) d_W_law_1471 (by decide) ?_
                                                                                        refine PJ.iadd (pc := 1472) d_W_law_1472 ?_
                                                                                        refine PJ.sld (pc := 1473) d_W_law_1473 (fun v193 => ?_)
                                                                                        refine PJ.aload_n (pc := 1474) d_W_law_1474 rfl ?_
                                                                                        refine PJ.iload (pc := 1475) d_W_law_1475 rfl ?_
                                                                                        refine PJ.iconst (pc := 1477) (v := 2) d_W_law_1477 (by decide) ?_
                                                                                        refine PJ.iadd (pc := 1478) d_W_law_1478 ?_
                                                                                        refine PJ.sld (pc := 1479) d_W_law_1479 (fun v194 => ?_)
                                                                                        refine PJ.cVI (pc := 1480) cs_W_188 (fun z hz => PM_M_rest hz) (lw_fit (Nat.le_of_ble_eq_true rfl) (Nat.le_of_ble_eq_true rfl) (by omega) (by omega)) rfl rfl (Nat.le_of_ble_eq_true rfl) d_W_law_1480 (fun v195 => ?_)
                                                                                        refine PJ.icmp_eq (pc := 1483) (tgt := 1843) d_W_law_1483 (by decide) (fun _ => ?_) (fun _ => ?_)
                                                                                        · refine PJ.iinc (pc := 1843) (v := 6) (L1 := [some (.inr (.inr (some 49))), some (.inr (.inr xr)), some (.inr (.inr mr)), some (.inr (.inr ur)), some (.inl (s.1 + (6 : Int32))), none, none]) d_W_law_1843 rfl (by decide) (Nat.le_of_ble_eq_true rfl) rfl rfl ?_
                                                                                          refine PJ.goto (pc := 1846) (tgt := 23) d_W_law_1846 (by decide) ?_
                                                                                          refine PJ.wid (s.2.2.1 + 64) (s.2.2.2 + 700) (by omega) (by omega) ?_
                                                                                          exact PJ.done rfl
                                                                                        · exact PJ.nn
                                                                                      · refine PJ.swc (pc := 40) (tgt := 1488) (off := 1448) (41 : Int32) d_W_law_40 (by decide +kernel) (by decide +kernel) (by decide +kernel) (by decide) (fun _ => ?_) (fun _ => ?_)
                                                                                        · refine PJ.aload_n (pc := 1488) d_W_law_1488 rfl ?_
                                                                                          refine PJ.aload_n (pc := 1489) d_W_law_1489 rfl ?_
                                                                                          refine PJ.iload (pc := 1490) d_W_law_1490 rfl ?_
                                                                                          refine PJ.iconst (pc := 1492) (v := 1) d_W_law_1492 (by decide) ?_
                                                                                          refine PJ.iadd (pc := 1493) d_W_law_1493 ?_
                                                                                          refine PJ.sld (pc := 1494) d_W_law_1494 (fun v196 => ?_)
                                                                                          refine PJ.aload_n (pc := 1495) d_W_law_1495 rfl ?_
                                                                                          refine PJ.iload (pc := 1496) d_W_law_1496 rfl ?_
                                                                                          refine PJ.iconst (pc := 1498) (v := 2) d_W_law_1498 (by decide) ?_
                                                                                          refine PJ.iadd (pc := 1499) d_W_law_1499 ?_
                                                                                          refine PJ.sld (pc := 1500) d_W_law_1500 (fun v197 => ?_)
                                                                                          refine PJ.cVI (pc := 1501) cs_W_189 (fun z hz => PM_T_year hz) (lw_fit (Nat.le_of_ble_eq_true rfl) (Nat.le_of_ble_eq_true rfl) (by omega) (by omega)) rfl rfl (Nat.le_of_ble_eq_true rfl) d_W_law_1501 (fun v198 => ?_)
                                                                                          refine PJ.aload_n (pc := 1504) d_W_law_1504 rfl ?_
                                                                                          refine PJ.aload_n (pc := 1505) d_W_law_1505 rfl ?_
                                                                                          refine PJ.iload (pc := 1506) d_W_law_1506 rfl ?_
                                                                                          refine PJ.iconst (pc := 1508) (v := 1) d_W_law_1508 (by decide) ?_
                                                                                          refine PJ.iadd (pc := 1509) d_W_law_1509 ?_
                                                                                          refine PJ.sld (pc := 1510) d_W_law_1510 (fun v199 => ?_)
                                                                                          refine PJ.aload_n (pc := 1511) d_W_law_1511 rfl ?_
                                                                                          refine PJ.iload (pc := 1512) d_W_law_1512 rfl ?_
                                                                                          refine PJ.iconst (pc := 1514) (v := 2) d_W_law_1514 (by decide) ?_
                                                                                          refine PJ.iadd (pc := 1515) d_W_law_1515 ?_
                                                                                          refine PJ.sld (pc := 1516) d_W_law_1516 (fun v200 => ?_)
                                                                                          refine PJ.cVI (pc := 1517) cs_W_192 (fun z hz => PM_M_year hz) (lw_fit (Nat.le_of_ble_eq_true rfl) (Nat.le_of_ble_eq_true rfl) (by omega) (by omega)) rfl rfl (Nat.le_of_ble_eq_true rfl) d_W_law_1517 (fun v201 => ?_)
                                                                                          refine PJ.icmp_eq (pc := 1520) (tgt := 1843) d_W_law_1520 (by decide) (fun _ => ?_) (fun _ => ?_)
                                                                                          · refine PJ.iinc (pc := 1843) (v := 6) (L1 := [some (.inr (.inr (some 49))), some (.inr (.inr xr)), some (.inr (.inr mr)), some (.inr (.inr ur)), some (.inl (s.1 + (6 : Int32))), none, none]) d_W_law_1843 rfl (by decide) (Nat.le_of_ble_eq_true rfl) rfl rfl ?_
                                                                                            refine PJ.goto (pc := 1846) (tgt := 23) d_W_law_1846 (by decide) ?_
                                                                                            refine PJ.wid (s.2.2.1 + 64) (s.2.2.2 + 700) (by omega) (by omega) ?_
                                                                                            exact PJ.done rfl
                                                                                          · exact PJ.nn
                                                                                        · refine PJ.swc (pc := 40) (tgt := 1525) (off := 1485) (42 : Int32) d_W_law_40 (by decide +kernel) (by decide +kernel) (by decide +kernel) (by decide) (fun _ => ?_) (fun _ => ?_)
                                                                                          · refine PJ.aload_n (pc := 1525) d_W_law_1525 rfl ?_
                                                                                            refine PJ.aload_n (pc := 1526) d_W_law_1526 rfl ?_
                                                                                            refine PJ.iload (pc := 1527) d_W_law_1527 rfl ?_
                                                                                            refine PJ.iconst (pc := 1529) (v := 1) d_W_law_1529 (by decide) ?_
                                                                                            refine PJ.iadd (pc := 1530) d_W_law_1530 ?_
                                                                                            refine PJ.sld (pc := 1531) d_W_law_1531 (fun v202 => ?_)
                                                                                            refine PJ.aload_n (pc := 1532) d_W_law_1532 rfl ?_
                                                                                            refine PJ.iload (pc := 1533) d_W_law_1533 rfl ?_
                                                                                            refine PJ.iconst (pc := 1535) (v := 2) d_W_law_1535 (by decide) ?_
                                                                                            refine PJ.iadd (pc := 1536) d_W_law_1536 ?_
                                                                                            refine PJ.sld (pc := 1537) d_W_law_1537 (fun v203 => ?_)
                                                                                            refine PJ.aload_n (pc := 1538) d_W_law_1538 rfl ?_
                                                                                            refine PJ.iload (pc := 1539) d_W_law_1539 rfl ?_
                                                                                            refine PJ.iconst (pc := 1541) (v := 3) d_W_law_1541 (by decide) ?_
                                                                                            refine PJ.iadd (pc := 1542) d_W_law_1542 ?_
                                                                                            refine PJ.sld (pc := 1543) d_W_law_1543 (fun v204 => ?_)
                                                                                            refine PJ.cVI (pc := 1544) cs_W_193 (fun z hz => PM_T_yearHeld hz) (lw_fit (Nat.le_of_ble_eq_true rfl) (Nat.le_of_ble_eq_true rfl) (by omega) (by omega)) rfl rfl (Nat.le_of_ble_eq_true rfl) d_W_law_1544 (fun v205 => ?_)
                                                                                            refine PJ.aload_n (pc := 1547) d_W_law_1547 rfl ?_
                                                                                            refine PJ.aload_n (pc := 1548) d_W_law_1548 rfl ?_
                                                                                            refine PJ.iload (pc := 1549) d_W_law_1549 rfl ?_
                                                                                            refine PJ.iconst (pc := 1551) (v := 1) d_W_law_1551 (by decide) ?_
                                                                                            refine PJ.iadd (pc := 1552) d_W_law_1552 ?_
                                                                                            refine PJ.sld (pc := 1553) d_W_law_1553 (fun v206 => ?_)
                                                                                            refine PJ.aload_n (pc := 1554) d_W_law_1554 rfl ?_
                                                                                            refine PJ.iload (pc := 1555) d_W_law_1555 rfl ?_
                                                                                            refine PJ.iconst (pc := 1557) (v := 2) d_W_law_1557 (by decide) ?_
                                                                                            refine PJ.iadd (pc := 1558) d_W_law_1558 ?_
                                                                                            refine PJ.sld (pc := 1559) d_W_law_1559 (fun v207 => ?_)
                                                                                            refine PJ.aload_n (pc := 1560) d_W_law_1560 rfl ?_
                                                                                            refine PJ.iload (pc := 1561) d_W_law_1561 rfl ?_
                                                                                            refine PJ.iconst (pc := 1563) (v := 3) d_W_law_1563 (by decide) ?_
                                                                                            refine PJ.iadd (pc := 1564) d_W_law_1564 ?_
                                                                                            refine PJ.sld (pc := 1565) d_W_law_1565 (fun v208 => ?_)
                                                                                            refine PJ.cVI (pc := 1566) cs_W_197 (fun z hz => PM_M_yearHeld hz) (lw_fit (Nat.le_of_ble_eq_true rfl) (Nat.le_of_ble_eq_true rfl) (by omega) (by omega)) rfl rfl (Nat.le_of_ble_eq_true rfl) d_W_law_1566 (fun v209 => ?_)
                                                                                            refine PJ.icmp_eq (pc := 1569) (tgt := 1843) d_W_law_1569 (by decide) (fun _ => ?_) (fun _ => ?_)
                                                                                            · refine PJ.iinc (pc := 1843) (v := 6) (L1 := [some (.inr (.inr (some 49))), some (.inr (.inr xr)), some (.inr (.inr mr)), some (.inr (.inr ur)), some (.inl (s.1 + (6 : Int32))), none, none]) d_W_law_1843 rfl (by decide) (Nat.le_of_ble_eq_true rfl) rfl rfl ?_
                                                                                              refine PJ.goto (pc := 1846) (tgt := 23) d_W_law_1846 (by decide) ?_
                                                                                              refine PJ.wid (s.2.2.1 + 64) (s.2.2.2 + 700) (by omega) (by omega) ?_
                                                                                              exact PJ.done rfl
                                                                                            · exact PJ.nn
                                                                                          · refine PJ.swc (pc := 40) (tgt := 1574) (off := 1534) (43 : Int32) d_W_law_40 (by decide +kernel) (by decide +kernel) (by decide +kernel) (by decide) (fun _ => ?_) (fun _ => ?_)
                                                                                            · refine PJ.aload_n (pc := 1574) d_W_law_1574 rfl ?_
                                                                                              refine PJ.aload_n (pc := 1575) d_W_law_1575 rfl ?_
                                                                                              refine PJ.iload (pc := 1576) d_W_law_1576 rfl ?_
                                                                                              refine PJ.iconst (pc := 1578) (v := 1) d_W_law_1578 (by decide) ?_
                                                                                              refine PJ.iadd (pc := 1579) d_W_law_1579 ?_
                                                                                              refine PJ.sld (pc := 1580) d_W_law_1580 (fun v210 => ?_)
                                                                                              refine PJ.aload_n (pc := 1581) d_W_law_1581 rfl ?_
                                                                                              refine PJ.iload (pc := 1582) d_W_law_1582 rfl ?_
                                                                                              refine PJ.iconst (pc := 1584) (v := 2) d_W_law_1584 (by decide) ?_
                                                                                              refine PJ.iadd (pc := 1585) d_W_law_1585 ?_
                                                                                              refine PJ.sld (pc := 1586) d_W_law_1586 (fun v211 => ?_)
                                                                                              refine PJ.cVI (pc := 1587) cs_W_198 (fun z hz => PM_T_yearChanges hz) (lw_fit (Nat.le_of_ble_eq_true rfl) (Nat.le_of_ble_eq_true rfl) (by omega) (by omega)) rfl rfl (Nat.le_of_ble_eq_true rfl) d_W_law_1587 (fun v212 => ?_)
                                                                                              refine PJ.aload_n (pc := 1590) d_W_law_1590 rfl ?_
                                                                                              refine PJ.aload_n (pc := 1591) d_W_law_1591 rfl ?_
                                                                                              refine PJ.iload (pc := 1592) d_W_law_1592 rfl ?_
                                                                                              refine PJ.iconst (pc := 1594) (v := 1) d_W_law_1594 (by decide) ?_
                                                                                              refine PJ.iadd (pc := 1595) d_W_law_1595 ?_
                                                                                              refine PJ.sld (pc := 1596) d_W_law_1596 (fun v213 => ?_)
                                                                                              refine PJ.aload_n (pc := 1597) d_W_law_1597 rfl ?_
                                                                                              refine PJ.iload (pc := 1598) d_W_law_1598 rfl ?_
                                                                                              refine PJ.iconst (pc := 1600) (v := 2) d_W_law_1600 (by decide) ?_
                                                                                              refine PJ.iadd (pc := 1601) d_W_law_1601 ?_
                                                                                              refine PJ.sld (pc := 1602) d_W_law_1602 (fun v214 => ?_)
                                                                                              refine PJ.cVI (pc := 1603) cs_W_201 (fun z hz => PM_M_yearChanges hz) (lw_fit (Nat.le_of_ble_eq_true rfl) (Nat.le_of_ble_eq_true rfl) (by omega) (by omega)) rfl rfl (Nat.le_of_ble_eq_true rfl) d_W_law_1603 (fun v215 => ?_)
                                                                                              refine PJ.icmp_eq (pc := 1606) (tgt := 1843) d_W_law_1606 (by decide) (fun _ => ?_) (fun _ => ?_)
                                                                                              · refine PJ.iinc (pc := 1843) (v := 6) (L1 := [some (.inr (.inr (some 49))), some (.inr (.inr xr)), some (.inr (.inr mr)), some (.inr (.inr ur)), some (.inl (s.1 + (6 : Int32))), none, none]) d_W_law_1843 rfl (by decide) (Nat.le_of_ble_eq_true rfl) rfl rfl ?_
                                                                                                refine PJ.goto (pc := 1846) (tgt := 23) d_W_law_1846 (by decide) ?_
                                                                                                refine PJ.wid (s.2.2.1 + 64) (s.2.2.2 + 700) (by omega) (by omega) ?_
                                                                                                exact PJ.done rfl
                                                                                              · exact PJ.nn
                                                                                            · refine PJ.swc (pc := 40) (tgt := 1611) (off := 1571) (44 : Int32) d_W_law_40 (by decide +kernel) (by decide +kernel) (by decide +kernel) (by decide) (fun _ => ?_) (fun _ => ?_)
                                                                                              · refine PJ.aload_n (pc := 1611) d_W_law_1611 rfl ?_
                                                                                                refine PJ.aload_n (pc := 1612) d_W_law_1612 rfl ?_
                                                                                                refine PJ.iload (pc := 1613) d_W_law_1613 rfl ?_
                                                                                                refine PJ.iconst (pc := 1615) (v := 1) d_W_law_1615 (by decide) ?_
                                                                                                refine PJ.iadd (pc := 1616) d_W_law_1616 ?_
                                                                                                refine PJ.sld (pc := 1617) d_W_law_1617 (fun v216 => ?_)
                                                                                                refine PJ.aload_n (pc := 1618) d_W_law_1618 rfl ?_
                                                                                                refine PJ.iload (pc := 1619) d_W_law_1619 rfl ?_
                                                                                                refine PJ.iconst (pc := 1621) (v := 2) d_W_law_1621 (by decide) ?_
                                                                                                refine PJ.iadd (pc := 1622) d_W_law_1622 ?_
                                                                                                refine PJ.sld (pc := 1623) d_W_law_1623 (fun v217 => ?_)
                                                                                                refine PJ.cVI (pc := 1624) cs_W_202 (fun z hz => PM_T_change hz) (lw_fit (Nat.le_of_ble_eq_true rfl) (Nat.le_of_ble_eq_true rfl) (by omega) (by omega)) rfl rfl (Nat.le_of_ble_eq_true rfl) d_W_law_1624 (fun v218 => ?_)
                                                                                                refine PJ.aload_n (pc := 1627) d_W_law_1627 rfl ?_
                                                                                                refine PJ.aload_n (pc := 1628) d_W_law_1628 rfl ?_
                                                                                                refine PJ.iload (pc := 1629) d_W_law_1629 rfl ?_
                                                                                                refine PJ.iconst (pc := 1631) (v := 1) d_W_law_1631 (by decide) ?_
                                                                                                refine PJ.iadd (pc := 1632) d_W_law_1632 ?_
                                                                                                refine PJ.sld (pc := 1633) d_W_law_1633 (fun v219 => ?_)
                                                                                                refine PJ.aload_n (pc := 1634) d_W_law_1634 rfl ?_
                                                                                                refine PJ.iload (pc := 1635) d_W_law_1635 rfl ?_
                                                                                                refine PJ.iconst (pc := 1637) (v := 2) d_W_law_1637 (by decide) ?_
                                                                                                refine PJ.iadd (pc := 1638) d_W_law_1638 ?_
                                                                                                refine PJ.sld (pc := 1639) d_W_law_1639 (fun v220 => ?_)
                                                                                                refine PJ.cVI (pc := 1640) cs_W_205 (fun z hz => PM_M_change hz) (lw_fit (Nat.le_of_ble_eq_true rfl) (Nat.le_of_ble_eq_true rfl) (by omega) (by omega)) rfl rfl (Nat.le_of_ble_eq_true rfl) d_W_law_1640 (fun v221 => ?_)
                                                                                                refine PJ.icmp_eq (pc := 1643) (tgt := 1843) d_W_law_1643 (by decide) (fun _ => ?_) (fun _ => ?_)
                                                                                                · refine PJ.iinc (pc := 1843) (v := 6) (L1 := [some (.inr (.inr (some 49))), some (.inr (.inr xr)), some (.inr (.inr mr)), some (.inr (.inr ur)), some (.inl (s.1 + (6 : Int32))), none, none]) d_W_law_1843 rfl (by decide) (Nat.le_of_ble_eq_true rfl) rfl rfl ?_
                                                                                                  refine PJ.goto (pc := 1846) (tgt := 23) d_W_law_1846 (by decide) ?_
                                                                                                  refine PJ.wid (s.2.2.1 + 64) (s.2.2.2 + 700) (by omega) (by omega) ?_
                                                                                                  exact PJ.done rfl
                                                                                                · exact PJ.nn
                                                                                              · refine PJ.swc (pc := 40) (tgt := 1648) (off := 1608) (45 : Int32) d_W_law_40 (by decide +kernel) (by decide +kernel) (by decide +kernel) (by decide) (fun _ => ?_) (fun _ => ?_)
                                                                                                · refine PJ.aload_n (pc := 1648) d_W_law_1648 rfl ?_
                                                                                                  refine PJ.aload_n (pc := 1649) d_W_law_1649 rfl ?_
                                                                                                  refine PJ.iload (pc := 1650) d_W_law_1650 rfl ?_
                                                                                                  refine PJ.iconst (pc := 1652) (v := 1) d_W_law_1652 (by decide) ?_
                                                                                                  refine PJ.iadd (pc := 1653) d_W_law_1653 ?_
                                                                                                  refine PJ.sld (pc := 1654) d_W_law_1654 (fun v222 => ?_)
                                                                                                  refine PJ.cVI (pc := 1655) cs_W_206 (fun z hz => PM_T_hours hz) (lw_fit (Nat.le_of_ble_eq_true rfl) (Nat.le_of_ble_eq_true rfl) (by omega) (by omega)) rfl rfl (Nat.le_of_ble_eq_true rfl) d_W_law_1655 (fun v223 => ?_)
                                                                                                  refine PJ.aload_n (pc := 1658) d_W_law_1658 rfl ?_
                                                                                                  refine PJ.aload_n (pc := 1659) d_W_law_1659 rfl ?_
                                                                                                  refine PJ.iload (pc := 1660) d_W_law_1660 rfl ?_
                                                                                                  refine PJ.iconst (pc := 1662) (v := 1) d_W_law_1662 (by decide) ?_
                                                                                                  refine PJ.iadd (pc := 1663) d_W_law_1663 ?_
                                                                                                  refine PJ.sld (pc := 1664) d_W_law_1664 (fun v224 => ?_)
                                                                                                  refine PJ.cVI (pc := 1665) cs_W_209 (fun z hz => PM_M_hours hz) (lw_fit (Nat.le_of_ble_eq_true rfl) (Nat.le_of_ble_eq_true rfl) (by omega) (by omega)) rfl rfl (Nat.le_of_ble_eq_true rfl) d_W_law_1665 (fun v225 => ?_)
                                                                                                  refine PJ.icmp_eq (pc := 1668) (tgt := 1843) d_W_law_1668 (by decide) (fun _ => ?_) (fun _ => ?_)
                                                                                                  · refine PJ.iinc (pc := 1843) (v := 6) (L1 := [some (.inr (.inr (some 49))), some (.inr (.inr xr)), some (.inr (.inr mr)), some (.inr (.inr ur)), some (.inl (s.1 + (6 : Int32))), none, none]) d_W_law_1843 rfl (by decide) (Nat.le_of_ble_eq_true rfl) rfl rfl ?_
                                                                                                    refine PJ.goto (pc := 1846) (tgt := 23) d_W_law_1846 (by decide) ?_
                                                                                                    refine PJ.wid (s.2.2.1 + 64) (s.2.2.2 + 700) (by omega) (by omega) ?_
                                                                                                    exact PJ.done rfl
                                                                                                  · exact PJ.nn
                                                                                                · refine PJ.swc (pc := 40) (tgt := 1673) (off := 1633) (46 : Int32) d_W_law_40 (by decide +kernel) (by decide +kernel) (by decide +kernel) (by decide) (fun _ => ?_) (fun _ => ?_)
                                                                                                  · refine PJ.aload_n (pc := 1673) d_W_law_1673 rfl ?_
                                                                                                    refine PJ.aload_n (pc := 1674) d_W_law_1674 rfl ?_
                                                                                                    refine PJ.iload (pc := 1675) d_W_law_1675 rfl ?_
                                                                                                    refine PJ.iconst (pc := 1677) (v := 1) d_W_law_1677 (by decide) ?_
                                                                                                    refine PJ.iadd (pc := 1678) d_W_law_1678 ?_
                                                                                                    refine PJ.sld (pc := 1679) d_W_law_1679 (fun v226 => ?_)
                                                                                                    refine PJ.cVI (pc := 1680) cs_W_210 (fun z hz => PM_T_seed hz) (lw_fit (Nat.le_of_ble_eq_true rfl) (Nat.le_of_ble_eq_true rfl) (by omega) (by omega)) rfl rfl (Nat.le_of_ble_eq_true rfl) d_W_law_1680 (fun v227 => ?_)
                                                                                                    refine PJ.aload_n (pc := 1683) d_W_law_1683 rfl ?_
                                                                                                    refine PJ.aload_n (pc := 1684) d_W_law_1684 rfl ?_
                                                                                                    refine PJ.iload (pc := 1685) d_W_law_1685 rfl ?_
                                                                                                    refine PJ.iconst (pc := 1687) (v := 1) d_W_law_1687 (by decide) ?_
                                                                                                    refine PJ.iadd (pc := 1688) d_W_law_1688 ?_
                                                                                                    refine PJ.sld (pc := 1689) d_W_law_1689 (fun v228 => ?_)
                                                                                                    refine PJ.cVI (pc := 1690) cs_W_214 (fun z hz => PM_M_seed hz) (lw_fit (Nat.le_of_ble_eq_true rfl) (Nat.le_of_ble_eq_true rfl) (by omega) (by omega)) rfl rfl (Nat.le_of_ble_eq_true rfl) d_W_law_1690 (fun v229 => ?_)
                                                                                                    refine PJ.icmp_eq (pc := 1693) (tgt := 1843) d_W_law_1693 (by decide) (fun _ => ?_) (fun _ => ?_)
                                                                                                    · refine PJ.iinc (pc := 1843) (v := 6) (L1 := [some (.inr (.inr (some 49))), some (.inr (.inr xr)), some (.inr (.inr mr)), some (.inr (.inr ur)), some (.inl (s.1 + (6 : Int32))), none, none]) d_W_law_1843 rfl (by decide) (Nat.le_of_ble_eq_true rfl) rfl rfl ?_
                                                                                                      refine PJ.goto (pc := 1846) (tgt := 23) d_W_law_1846 (by decide) ?_
                                                                                                      refine PJ.wid (s.2.2.1 + 64) (s.2.2.2 + 700) (by omega) (by omega) ?_
                                                                                                      exact PJ.done rfl
                                                                                                    · exact PJ.nn
                                                                                                  · refine PJ.swc (pc := 40) (tgt := 1698) (off := 1658) (47 : Int32) d_W_law_40 (by decide +kernel) (by decide +kernel) (by decide +kernel) (by decide) (fun _ => ?_) (fun _ => ?_)
                                                                                                    · refine PJ.aload_n (pc := 1698) d_W_law_1698 rfl ?_
                                                                                                      refine PJ.cVI (pc := 1699) cs_W_215 (fun z hz => PM_T_undo hz) (lw_fit (Nat.le_of_ble_eq_true rfl) (Nat.le_of_ble_eq_true rfl) (by omega) (by omega)) rfl rfl (Nat.le_of_ble_eq_true rfl) d_W_law_1699 (fun v230 => ?_)
                                                                                                      refine PJ.aload_n (pc := 1702) d_W_law_1702 rfl ?_
                                                                                                      refine PJ.cVI (pc := 1703) cs_W_219 (fun z hz => PM_M_undo hz) (lw_fit (Nat.le_of_ble_eq_true rfl) (Nat.le_of_ble_eq_true rfl) (by omega) (by omega)) rfl rfl (Nat.le_of_ble_eq_true rfl) d_W_law_1703 (fun v231 => ?_)
                                                                                                      refine PJ.icmp_eq (pc := 1706) (tgt := 1843) d_W_law_1706 (by decide) (fun _ => ?_) (fun _ => ?_)
                                                                                                      · refine PJ.iinc (pc := 1843) (v := 6) (L1 := [some (.inr (.inr (some 49))), some (.inr (.inr xr)), some (.inr (.inr mr)), some (.inr (.inr ur)), some (.inl (s.1 + (6 : Int32))), none, none]) d_W_law_1843 rfl (by decide) (Nat.le_of_ble_eq_true rfl) rfl rfl ?_
                                                                                                        refine PJ.goto (pc := 1846) (tgt := 23) d_W_law_1846 (by decide) ?_
                                                                                                        refine PJ.wid (s.2.2.1 + 64) (s.2.2.2 + 700) (by omega) (by omega) ?_
                                                                                                        exact PJ.done rfl
                                                                                                      · exact PJ.nn
                                                                                                    · refine PJ.swc (pc := 40) (tgt := 1711) (off := 1671) (48 : Int32) d_W_law_40 (by decide +kernel) (by decide +kernel) (by decide +kernel) (by decide) (fun _ => ?_) (fun _ => ?_)
                                                                                                      · refine PJ.aload_n (pc := 1711) d_W_law_1711 rfl ?_
                                                                                                        refine PJ.cVI (pc := 1712) cs_W_220 (fun z hz => PM_T_mark hz) (lw_fit (Nat.le_of_ble_eq_true rfl) (Nat.le_of_ble_eq_true rfl) (by omega) (by omega)) rfl rfl (Nat.le_of_ble_eq_true rfl) d_W_law_1712 (fun v232 => ?_)
                                                                                                        refine PJ.aload_n (pc := 1715) d_W_law_1715 rfl ?_
                                                                                                        refine PJ.cVI (pc := 1716) cs_W_223 (fun z hz => PM_M_mark hz) (lw_fit (Nat.le_of_ble_eq_true rfl) (Nat.le_of_ble_eq_true rfl) (by omega) (by omega)) rfl rfl (Nat.le_of_ble_eq_true rfl) d_W_law_1716 (fun v233 => ?_)
                                                                                                        refine PJ.icmp_eq (pc := 1719) (tgt := 1843) d_W_law_1719 (by decide) (fun _ => ?_) (fun _ => ?_)
                                                                                                        · refine PJ.iinc (pc := 1843) (v := 6) (L1 := [some (.inr (.inr (some 49))), some (.inr (.inr xr)), some (.inr (.inr mr)), some (.inr (.inr ur)), some (.inl (s.1 + (6 : Int32))), none, none]) d_W_law_1843 rfl (by decide) (Nat.le_of_ble_eq_true rfl) rfl rfl ?_
                                                                                                          refine PJ.goto (pc := 1846) (tgt := 23) d_W_law_1846 (by decide) ?_
                                                                                                          refine PJ.wid (s.2.2.1 + 64) (s.2.2.2 + 700) (by omega) (by omega) ?_
                                                                                                          exact PJ.done rfl
                                                                                                        · exact PJ.nn
                                                                                                      · refine PJ.swc (pc := 40) (tgt := 1724) (off := 1684) (49 : Int32) d_W_law_40 (by decide +kernel) (by decide +kernel) (by decide +kernel) (by decide) (fun _ => ?_) (fun _ => ?_)
                                                                                                        · refine PJ.aload_n (pc := 1724) d_W_law_1724 rfl ?_
                                                                                                          refine PJ.aload_n (pc := 1725) d_W_law_1725 rfl ?_
                                                                                                          refine PJ.iload (pc := 1726) d_W_law_1726 rfl ?_
                                                                                                          refine PJ.iconst (pc := 1728) (v := 1) d_W_law_1728 (by decide) ?_
                                                                                                          refine PJ.iadd (pc := 1729) d_W_law_1729 ?_
                                                                                                          refine PJ.sld (pc := 1730) d_W_law_1730 (fun v234 => ?_)
                                                                                                          refine PJ.cVI (pc := 1731) cs_W_224 (fun z hz => PM_T_back hz) (lw_fit (Nat.le_of_ble_eq_true rfl) (Nat.le_of_ble_eq_true rfl) (by omega) (by omega)) rfl rfl (Nat.le_of_ble_eq_true rfl) d_W_law_1731 (fun v235 => ?_)
                                                                                                          refine PJ.aload_n (pc := 1734) d_W_law_1734 rfl ?_
                                                                                                          refine PJ.aload_n (pc := 1735) d_W_law_1735 rfl ?_
                                                                                                          refine PJ.iload (pc := 1736) d_W_law_1736 rfl ?_
                                                                                                          refine PJ.iconst (pc := 1738) (v := 1) d_W_law_1738 (by decide) ?_
                                                                                                          refine PJ.iadd (pc := 1739) d_W_law_1739 ?_
                                                                                                          refine PJ.sld (pc := 1740) d_W_law_1740 (fun v236 => ?_)
                                                                                                          refine PJ.cVI (pc := 1741) cs_W_227 (fun z hz => PM_M_back hz) (lw_fit (Nat.le_of_ble_eq_true rfl) (Nat.le_of_ble_eq_true rfl) (by omega) (by omega)) rfl rfl (Nat.le_of_ble_eq_true rfl) d_W_law_1741 (fun v237 => ?_)
                                                                                                          refine PJ.icmp_eq (pc := 1744) (tgt := 1843) d_W_law_1744 (by decide) (fun _ => ?_) (fun _ => ?_)
                                                                                                          · refine PJ.iinc (pc := 1843) (v := 6) (L1 := [some (.inr (.inr (some 49))), some (.inr (.inr xr)), some (.inr (.inr mr)), some (.inr (.inr ur)), some (.inl (s.1 + (6 : Int32))), none, none]) d_W_law_1843 rfl (by decide) (Nat.le_of_ble_eq_true rfl) rfl rfl ?_
                                                                                                            refine PJ.goto (pc := 1846) (tgt := 23) d_W_law_1846 (by decide) ?_
                                                                                                            refine PJ.wid (s.2.2.1 + 64) (s.2.2.2 + 700) (by omega) (by omega) ?_
                                                                                                            exact PJ.done rfl
                                                                                                          · exact PJ.nn
                                                                                                        · refine PJ.swc (pc := 40) (tgt := 1749) (off := 1709) (50 : Int32) d_W_law_40 (by decide +kernel) (by decide +kernel) (by decide +kernel) (by decide) (fun _ => ?_) (fun _ => ?_)
                                                                                                          · refine PJ.aload_n (pc := 1749) d_W_law_1749 rfl ?_
                                                                                                            refine PJ.aload_n (pc := 1750) d_W_law_1750 rfl ?_
                                                                                                            refine PJ.iload (pc := 1751) d_W_law_1751 rfl ?_
                                                                                                            refine PJ.iconst (pc := 1753) (v := 1) d_W_law_1753 (by decide) ?_
                                                                                                            refine PJ.iadd (pc := 1754) d_W_law_1754 ?_
                                                                                                            refine PJ.sld (pc := 1755) d_W_law_1755 (fun v238 => ?_)
                                                                                                            refine PJ.aload_n (pc := 1756) d_W_law_1756 rfl ?_
                                                                                                            refine PJ.cSWI (pc := 1757) (idx := 228) cs_W_led (fun z hz => hled _ _ _ _ z hz) (lw_fit (Nat.le_of_ble_eq_true rfl) (Nat.le_of_ble_eq_true rfl) (by omega) (by omega)) rfl rfl (Nat.le_of_ble_eq_true rfl) d_W_law_1757 (fun v239 => ?_)
                                                                                                            refine PJ.istore (pc := 1760) (L1 := [some (.inr (.inr (some 49))), some (.inr (.inr xr)), some (.inr (.inr mr)), some (.inr (.inr ur)), some (.inl s.1), some (.inl v239.1), none]) d_W_law_1760 (Nat.le_of_ble_eq_true rfl) rfl rfl ?_
                                                                                                            refine PJ.aload_n (pc := 1762) d_W_law_1762 rfl ?_
                                                                                                            refine PJ.aload_n (pc := 1763) d_W_law_1763 rfl ?_
                                                                                                            refine PJ.iload (pc := 1764) d_W_law_1764 rfl ?_
                                                                                                            refine PJ.iconst (pc := 1766) (v := 1) d_W_law_1766 (by decide) ?_
                                                                                                            refine PJ.iadd (pc := 1767) d_W_law_1767 ?_
                                                                                                            refine PJ.sld (pc := 1768) d_W_law_1768 (fun v240 => ?_)
                                                                                                            refine PJ.cVI (pc := 1769) cs_W_233 (fun z hz => PM_M_led hz) (lw_fit (Nat.le_of_ble_eq_true rfl) (Nat.le_of_ble_eq_true rfl) (by omega) (by omega)) rfl rfl (Nat.le_of_ble_eq_true rfl) d_W_law_1769 (fun v241 => ?_)
                                                                                                            refine PJ.istore (pc := 1772) (L1 := [some (.inr (.inr (some 49))), some (.inr (.inr xr)), some (.inr (.inr mr)), some (.inr (.inr ur)), some (.inl s.1), some (.inl v239.1), some (.inl v241.1)]) d_W_law_1772 (Nat.le_of_ble_eq_true rfl) rfl rfl ?_
                                                                                                            refine PJ.aload_n (pc := 1774) d_W_law_1774 rfl ?_
                                                                                                            refine PJ.cVpI (pc := 1775) cs_W_234 (fun z hz => PM_M_thrown hz) (lw_fit (Nat.le_of_ble_eq_true rfl) (Nat.le_of_ble_eq_true rfl) (by omega) (by omega)) rfl rfl (Nat.le_of_ble_eq_true rfl) d_W_law_1775 (fun v242 => ?_)
                                                                                                            refine PJ.iload (pc := 1778) d_W_law_1778 rfl ?_
                                                                                                            refine PJ.icmp_eq (pc := 1780) (tgt := 1785) d_W_law_1780 (by decide) (fun _ => ?_) (fun _ => ?_)
                                                                                                            · refine PJ.iload (pc := 1785) d_W_law_1785 rfl ?_
                                                                                                              refine PJ.if_ne (pc := 1787) (tgt := 1802) d_W_law_1787 (by decide) (fun _ => ?_) (fun _ => ?_)
                                                                                                              · refine PJ.goto (pc := 1802) (tgt := 1843) d_W_law_1802 (by decide) ?_
                                                                                                                refine PJ.iinc (pc := 1843) (v := 6) (L1 := [some (.inr (.inr (some 49))), some (.inr (.inr xr)), some (.inr (.inr mr)), some (.inr (.inr ur)), some (.inl (s.1 + (6 : Int32))), some (.inl v239.1), some (.inl v241.1)]) d_W_law_1843 rfl (by decide) (Nat.le_of_ble_eq_true rfl) rfl rfl ?_
                                                                                                                refine PJ.goto (pc := 1846) (tgt := 23) d_W_law_1846 (by decide) ?_
                                                                                                                refine PJ.mk (L1 := [some (.inr (.inr (some 49))), some (.inr (.inr xr)), some (.inr (.inr mr)), some (.inr (.inr ur)), some (.inl (s.1 + (6 : Int32))), none, none]) [true, true, true, true, true, false, false] rfl ?_
                                                                                                                refine PJ.wid (s.2.2.1 + 64) (s.2.2.2 + 700) (by omega) (by omega) ?_
                                                                                                                exact PJ.done rfl
                                                                                                              · refine PJ.aload_n (pc := 1790) d_W_law_1790 rfl ?_
                                                                                                                refine PJ.iconst (pc := 1791) (v := 0) d_W_law_1791 (by decide) ?_
                                                                                                                refine PJ.lald (pc := 1792) d_W_law_1792 (fun v243 => ?_)
                                                                                                                refine PJ.iload (pc := 1793) d_W_law_1793 rfl ?_
                                                                                                                refine PJ.i2l (pc := 1795) d_W_law_1795 ?_
                                                                                                                refine PJ.lcmp (pc := 1796) d_W_law_1796 ?_
                                                                                                                refine PJ.if_eq (pc := 1797) (tgt := 1802) d_W_law_1797 (by decide) (fun _ => ?_) (fun _ => ?_)
                                                                                                                · refine PJ.goto (pc := 1802) (tgt := 1843) d_W_law_1802 (by decide) ?_
                                                                                                                  refine PJ.iinc (pc := 1843) (v := 6) (L1 := [some (.inr (.inr (some 49))), some (.inr (.inr xr)), some (.inr (.inr mr)), some (.inr (.inr ur)), some (.inl (s.1 + (6 : Int32))), some (.inl v239.1), some (.inl v241.1)]) d_W_law_1843 rfl (by decide) (Nat.le_of_ble_eq_true rfl) rfl rfl ?_
                                                                                                                  refine PJ.goto (pc := 1846) (tgt := 23) d_W_law_1846 (by decide) ?_
                                                                                                                  refine PJ.mk (L1 := [some (.inr (.inr (some 49))), some (.inr (.inr xr)), some (.inr (.inr mr)), some (.inr (.inr ur)), some (.inl (s.1 + (6 : Int32))), none, none]) [true, true, true, true, true, false, false] rfl ?_
                                                                                                                  refine PJ.wid (s.2.2.1 + 64) (s.2.2.2 + 700) (by omega) (by omega) ?_
                                                                                                                  exact PJ.done rfl
                                                                                                                · exact PJ.nn
                                                                                                            · exact PJ.nn
                                                                                                          · refine PJ.swc (pc := 40) (tgt := 1805) (off := 1765) (51 : Int32) d_W_law_40 (by decide +kernel) (by decide +kernel) (by decide +kernel) (by decide) (fun _ => ?_) (fun _ => ?_)
                                                                                                            · refine PJ.aload_n (pc := 1805) d_W_law_1805 rfl ?_
                                                                                                              refine PJ.aload_n (pc := 1806) d_W_law_1806 rfl ?_
                                                                                                              refine PJ.iload (pc := 1807) d_W_law_1807 rfl ?_
                                                                                                              refine PJ.iconst (pc := 1809) (v := 1) d_W_law_1809 (by decide) ?_
                                                                                                              refine PJ.iadd (pc := 1810) d_W_law_1810 ?_
                                                                                                              refine PJ.sld (pc := 1811) d_W_law_1811 (fun v244 => ?_)
                                                                                                              refine PJ.cVpI (pc := 1812) cs_W_237 (fun z hz => PM_T_size hz) (lw_fit (Nat.le_of_ble_eq_true rfl) (Nat.le_of_ble_eq_true rfl) (by omega) (by omega)) rfl rfl (Nat.le_of_ble_eq_true rfl) d_W_law_1812 (fun v245 => ?_)
                                                                                                              refine PJ.aload_n (pc := 1815) d_W_law_1815 rfl ?_
                                                                                                              refine PJ.aload_n (pc := 1816) d_W_law_1816 rfl ?_
                                                                                                              refine PJ.iload (pc := 1817) d_W_law_1817 rfl ?_
                                                                                                              refine PJ.iconst (pc := 1819) (v := 1) d_W_law_1819 (by decide) ?_
                                                                                                              refine PJ.iadd (pc := 1820) d_W_law_1820 ?_
                                                                                                              refine PJ.sld (pc := 1821) d_W_law_1821 (fun v246 => ?_)
                                                                                                              refine PJ.cVI (pc := 1822) cs_W_240 (fun z hz => PM_M_size hz) (lw_fit (Nat.le_of_ble_eq_true rfl) (Nat.le_of_ble_eq_true rfl) (by omega) (by omega)) rfl rfl (Nat.le_of_ble_eq_true rfl) d_W_law_1822 (fun v247 => ?_)
                                                                                                              refine PJ.icmp_eq (pc := 1825) (tgt := 1843) d_W_law_1825 (by decide) (fun _ => ?_) (fun _ => ?_)
                                                                                                              · refine PJ.iinc (pc := 1843) (v := 6) (L1 := [some (.inr (.inr (some 49))), some (.inr (.inr xr)), some (.inr (.inr mr)), some (.inr (.inr ur)), some (.inl (s.1 + (6 : Int32))), none, none]) d_W_law_1843 rfl (by decide) (Nat.le_of_ble_eq_true rfl) rfl rfl ?_
                                                                                                                refine PJ.goto (pc := 1846) (tgt := 23) d_W_law_1846 (by decide) ?_
                                                                                                                refine PJ.wid (s.2.2.1 + 64) (s.2.2.2 + 700) (by omega) (by omega) ?_
                                                                                                                exact PJ.done rfl
                                                                                                              · exact PJ.nn
                                                                                                            · refine PJ.swc (pc := 40) (tgt := 1830) (off := 1790) (52 : Int32) d_W_law_40 (by decide +kernel) (by decide +kernel) (by decide +kernel) (by decide) (fun _ => ?_) (fun _ => ?_)
                                                                                                              · refine PJ.aload_n (pc := 1830) d_W_law_1830 rfl ?_
                                                                                                                refine PJ.cVpI (pc := 1831) cs_W_241 (fun z hz => PM_T_trouble hz) (lw_fit (Nat.le_of_ble_eq_true rfl) (Nat.le_of_ble_eq_true rfl) (by omega) (by omega)) rfl rfl (Nat.le_of_ble_eq_true rfl) d_W_law_1831 (fun v248 => ?_)
                                                                                                                refine PJ.aload_n (pc := 1834) d_W_law_1834 rfl ?_
                                                                                                                refine PJ.cVI (pc := 1835) cs_W_244 (fun z hz => PM_M_trouble hz) (lw_fit (Nat.le_of_ble_eq_true rfl) (Nat.le_of_ble_eq_true rfl) (by omega) (by omega)) rfl rfl (Nat.le_of_ble_eq_true rfl) d_W_law_1835 (fun v249 => ?_)
                                                                                                                refine PJ.icmp_eq (pc := 1838) (tgt := 1843) d_W_law_1838 (by decide) (fun _ => ?_) (fun _ => ?_)
                                                                                                                · refine PJ.iinc (pc := 1843) (v := 6) (L1 := [some (.inr (.inr (some 49))), some (.inr (.inr xr)), some (.inr (.inr mr)), some (.inr (.inr ur)), some (.inl (s.1 + (6 : Int32))), none, none]) d_W_law_1843 rfl (by decide) (Nat.le_of_ble_eq_true rfl) rfl rfl ?_
                                                                                                                  refine PJ.goto (pc := 1846) (tgt := 23) d_W_law_1846 (by decide) ?_
                                                                                                                  refine PJ.wid (s.2.2.1 + 64) (s.2.2.2 + 700) (by omega) (by omega) ?_
                                                                                                                  exact PJ.done rfl
                                                                                                                · exact PJ.nn
                                                                                                              · exact PJ.nn
def LWP (G : Cx) (v : Int32) (M : MT) (Q : State → Prop) : Prop := v = 1 ∧ (∃ b, M.2.2.2.2.1 = #[Value.ref b] ∧ Q = lw_Z M.2.2.2.2.2.1 #[Value.ref b] M.2.2.1) ∧ G.1 = M.2.2.1.heap.size
theorem PJ.lawret {l : Launch} {G : Cx} {pc : Nat} {L : List (Option PV)} {h : PH} {v : Int32} (hd : decode Y_W_law.2.1 pc = .ok (.ireturn, 1)) : PJ l G room_1 Y_W_law pc L [.inl v] h 601024 7293034 (some v) (LWP G) := by
  intro M hM x9 hx9 Q hQ H locs ls hR hl hlo
  cases hx9
  obtain ⟨hv, ⟨b, hb1, hb2⟩, hG⟩ := hQ
  subst hv
  subst hb2
  obtain ⟨p, e, s, m, args, below, meth, c⟩ := M
  obtain ⟨hx, hb, hml, hown, hts, hr, hlk, hnm, hK⟩ := id hM
  dsimp only at hb1 hx hb hr hlk hG hlo ⊢
  subst hb1
  refine va_forget (fun q hq => by rw [← hG]; exact hlo q hq) ?_
  exact lw_ret hx hb hr hlk hd
set_option maxRecDepth 20000 in
theorem PJ_W_law {l : Launch} {G : Cx} (hled : ∀ h a0 a1 a2 z, f_W_led h a0 a1 a2 = some z → PMW l G 20 1 6 Y_W_led [(0, 9, 12, 13)] [.inr (.inr a0), .inl a1, .inr (.inr a2)] h (some (.inl z.1), z.2)) {h : PH} : PJ l G room_1 Y_W_law 0 [some (.inr (.inr (some 49))), none, none, none, none, none, none] [] h 0 0 (f_W_law G h) (LWP G) := by
  unfold f_W_law
  refine PJ.new (pc := 0) (ci := 10) (idx := 8) cd_10 rfl (fun _ => cn_10) wd_155 wd_156 wd_130 (Nat.le_of_ble_eq_true rfl) (Nat.le_of_ble_eq_true rfl) d_W_law_0 ?_
  refine PJ.dup (pc := 3) d_W_law_3 rfl ?_
  refine PJ.cIVx (pc := 4) cs_W_15 (fun z hz => PM_T_init hz) (pj_fitb rfl) rfl rfl (Nat.le_of_ble_eq_true rfl) d_W_law_4 (fun h1 => ?_)
  refine PJ.astore_n (pc := 7) (L1 := [some (.inr (.inr (some 49))), some (.inr (.inr (some (h).length))), none, none, none, none, none]) d_W_law_7 (Nat.le_of_ble_eq_true rfl) rfl rfl ?_
  refine PJ.new (pc := 8) (ci := 12) (idx := 16) cd_12 rfl (fun _ => cn_12) wd_1381 wd_1382 wd_141 (Nat.le_of_ble_eq_true rfl) (Nat.le_of_ble_eq_true rfl) d_W_law_8 ?_
  refine PJ.dup (pc := 11) d_W_law_11 rfl ?_
  refine PJ.cIVx (pc := 12) cs_W_18 (fun z hz => PM_M_init hz) (pj_fitb rfl) rfl rfl (Nat.le_of_ble_eq_true rfl) d_W_law_12 (fun h2 => ?_)
  refine PJ.astore_n (pc := 15) (L1 := [some (.inr (.inr (some 49))), some (.inr (.inr (some (h).length))), some (.inr (.inr (some (h1).length))), none, none, none, none]) d_W_law_15 (Nat.le_of_ble_eq_true rfl) rfl rfl ?_
  refine PJ.iconst (pc := 16) (v := 1) d_W_law_16 (by decide) ?_
  refine PJ.newa (pc := 17) (t := 51) (N := 1) (v := .inr (.inl 0)) (by decide) rfl (fun _ => rfl) wd_1484 (by decide) (by decide +kernel) (by decide) (Nat.le_of_ble_eq_true rfl) (Nat.le_of_ble_eq_true rfl) d_W_law_17 ?_
  refine PJ.astore_n (pc := 19) (L1 := [some (.inr (.inr (some 49))), some (.inr (.inr (some (h).length))), some (.inr (.inr (some (h1).length))), some (.inr (.inr (some (h2).length))), none, none, none]) d_W_law_19 (Nat.le_of_ble_eq_true rfl) rfl rfl ?_
  refine PJ.iconst (pc := 20) (v := 0) d_W_law_20 (by decide) ?_
  refine PJ.istore (pc := 21) (L1 := [some (.inr (.inr (some 49))), some (.inr (.inr (some (h).length))), some (.inr (.inr (some (h1).length))), some (.inr (.inr (some (h2).length))), some (.inl (0 : Int32)), none, none]) d_W_law_21 (Nat.le_of_ble_eq_true rfl) rfl rfl ?_
  refine PJ.bind (fun x : PH => ((1849 : Nat), ([none, none, none, none, none, none, none] : List (Option PV)), ([] : List PV), (x : PH), (601024 : Nat), (7293034 : Nat))) (PJ.it (E := (fun s : Int32 × PH × Nat × Nat => ((23 : Nat), ([some (.inr (.inr (some 49))), some (.inr (.inr (some (h).length))), some (.inr (.inr (some (h1).length))), some (.inr (.inr (some (h2).length))), some (.inl s.1), none, none] : List (Option PV)), ([] : List PV), (s.2.1 : PH), (s.2.2.1 : Nat), (s.2.2.2 : Nat)))) (F := (fun x : PH => ((1849 : Nat), ([none, none, none, none, none, none, none] : List (Option PV)), ([] : List PV), (x : PH), (601024 : Nat), (7293034 : Nat)))) (fun s => ?_) FU ((0 : Int32), (h2 ++ [(51, List.replicate 1 (.inr (.inl 0)))]), 196, 9394)) (fun x => ?_)
  · show PJ l G room_1 Y_W_law 23 [some (.inr (.inr (some 49))), some (.inr (.inr (some (h).length))), some (.inr (.inr (some (h1).length))), some (.inr (.inr (some (h2).length))), some (.inl s.1), none, none] [] s.2.1 s.2.2.1 s.2.2.2 _ _
    exact PJ_W_step hled s
  · show PJ l G room_1 Y_W_law 1849 [none, none, none, none, none, none, none] [] x 601024 7293034 _ _
    refine PJ.iconst (pc := 1849) (v := 1) d_W_law_1849 (by decide) ?_
    exact PJ.lawret (pc := 1850) d_W_law_1850
