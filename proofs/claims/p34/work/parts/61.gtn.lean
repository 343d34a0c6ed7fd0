/-! ONE TURN OF THE LAW'S LOOP: written by wip/p34/genlaw2.py -/
noncomputable def F_L_turn (s : gST) (ok : Int32) (i : Int32) : Option ((Int32 × (Int32 × gST)) ⊕ Int32) :=
 (gScr s.1 i).bind fun z1 =>
 (F_X10_init (gNwO (gAI s.2 1 8) 10) (gTop (gAI s.2 1 8)) z1).bind fun y2 =>
 (F_X8_init (gNwO y2 8) (gTop y2)).bind fun y3 =>
 (F_L_agrees (s.1, y3) (gTop y2)).bind fun y4 =>
 jn (fun (v6 : Int32 × gST) =>
  (F_L_randomCity (v6.2.1, v6.2.2) (gTop s.2) (gTop (gAI s.2 1 8)) (8 : Int32)).bind fun y7 =>
  if y7.1 = none then
   some (.inr (0 : Int32))
  else
   jn (fun (v9 : Int32 × gST) =>
    loop (fun (s10 : Int32 × Int32 × Int32 × gST) =>
     jn (fun (v12 : Unit) =>
      loop (fun (s13 : Int32 × Int32 × gST) =>
       jn (fun (v15 : Unit) =>
        if s13.1 = 0 then
         some (.inr (.inr (.inl ((0 : Int32), (i + (1 : Int32)), (s13.2.2.1, s13.2.2.2)))))
        else
         (F_L_load s13.2.2.1 (1 : Int32)).bind fun x16 =>
         if ¬ x16.1 = (-2000000098 : Int32) then
          some (.inr (.inr (.inl ((0 : Int32), (i + (1 : Int32)), (x16.2, (gBm s13.2.2.2 1))))))
         else
          (F_L_edge x16.2 (0 : Int32) (5 : Int32)).bind fun x17 =>
          if ¬ x17 = (-2000000098 : Int32) then
           some (.inr (.inr (.inl ((0 : Int32), (i + (1 : Int32)), (x16.2, (gBm (gBm s13.2.2.2 1) 2))))))
          else
           (F_L_edge x16.2 (-1 : Int32) (5 : Int32)).bind fun x18 =>
           if ¬ x18 = (-2000000097 : Int32) then
            some (.inr (.inr (.inl ((0 : Int32), (i + (1 : Int32)), (x16.2, (gBm (gBm (gBm s13.2.2.2 1) 2) 2))))))
           else
            (F_X8_arcs (gBm (gBm (gBm s13.2.2.2 1) 2) 2) y7.1).bind fun y19 =>
            (F_L_deadhead x16.2 (0 : Int32) y19).bind fun x20 =>
            if ¬ x20 = (-2000000097 : Int32) then
             some (.inr (.inr (.inl ((0 : Int32), (i + (1 : Int32)), (x16.2, (gBm (gBm (gBm (gBm s13.2.2.2 1) 2) 2) 2))))))
            else
             (gFr (gBm (gBm (gBm (gBm s13.2.2.2 1) 2) 2) 2) y7.1 8 3).bind fun r21 =>
             (gLen (gBm (gBm (gBm (gBm s13.2.2.2 1) 2) 2) 2) r21).bind fun z22 =>
             (F_L_bestInsertion x16.2 z22).bind fun x23 =>
             if ¬ x23 = (-2000000097 : Int32) then
              some (.inr (.inr (.inl ((0 : Int32), (i + (1 : Int32)), (x16.2, (gBm (gBm (gBm (gBm (gBm s13.2.2.2 1) 2) 2) 2) 2))))))
             else
              some (.inr (.inr (.inl ((1 : Int32), (i + (1 : Int32)), (x16.2, (gBm (gBm (gBm (gBm (gBm s13.2.2.2 1) 2) 2) 2) 2))))))) (fun k14 =>
        if (8 : Int32) ≤ s13.2.1 then
         k14 ()
        else
         if s10.2.1 ≤ s13.2.1 then
          k14 ()
         else
          if s13.1 = 0 then
           k14 ()
          else
           (F_X7_undo s13.2.2.1).bind fun x24 =>
           if x24.1 < 0 then
            some (.inl ((0 : Int32), (s13.2.1 + (1 : Int32)), (x24.2, s13.2.2.2)))
           else
            (gQld s13.2.2.2 (gTop v9.2.2) s13.2.1).bind fun r25 =>
            (F_L_agrees (x24.2, s13.2.2.2) r25).bind fun y26 =>
            if y26.1 = 0 then
             some (.inl ((0 : Int32), (s13.2.1 + (1 : Int32)), (y26.2.1, y26.2.2)))
            else
             some (.inl ((1 : Int32), (s13.2.1 + (1 : Int32)), (y26.2.1, y26.2.2))))) (s10.1, (0 : Int32), (s10.2.2.2.1, s10.2.2.2.2))) (fun k11 =>
      if (35 : Int32) ≤ s10.2.2.1 then
       k11 ()
      else
       if s10.1 = 0 then
        k11 ()
       else
        (F_X8_copy s10.2.2.2.2 y7.1).bind fun y27 =>
        (F_X10_below y27.2 (gTop (gAI s.2 1 8)) (14 : Int32)).bind fun y28 =>
        jn (fun (v30 : Int32 × gST) =>
         (gFr v30.2.2 y7.1 8 3).bind fun r31 =>
         (gLen v30.2.2 r31).bind fun z32 =>
         jn (fun (v34 : Int32) =>
          jn (fun (v36 : gRF × gST) =>
           jn (fun (v38 : Int32) =>
            (F_X10_below v36.2.2 (gTop (gAI s.2 1 8)) (12 : Int32)).bind fun y39 =>
            jn (fun (v41 : Int32 × Int32 × gST) =>
             jn (fun (v43 : Int32 × gST) =>
              if v41.1 = 0 then
               some (.inl ((0 : Int32), v43.1, (s10.2.2.1 + (1 : Int32)), (v43.2.1, v43.2.2)))
              else
               (F_L_agrees (v43.2.1, v43.2.2) y7.1).bind fun y44 =>
               if y44.1 = 0 then
                some (.inl ((0 : Int32), v43.1, (s10.2.2.1 + (1 : Int32)), (y44.2.1, y44.2.2)))
               else
                some (.inl ((1 : Int32), v43.1, (s10.2.2.1 + (1 : Int32)), (y44.2.1, y44.2.2)))) (fun k42 =>
              if v41.2.1 = 0 then
               k42 (s10.2.1, (v41.2.2.1, v41.2.2.2))
              else
               loop (fun (s45 : Int32 × gST) =>
                if s45.1 ≤ 0 then
                 (gQst s45.2.2 (gTop v9.2.2) (0 : Int32) y27.1).bind fun D46 =>
                 (k42 ((s10.2.1 + (1 : Int32)), (s45.2.1, D46))).map Sum.inr
                else
                 (gQld s45.2.2 (gTop v9.2.2) (s45.1 - (1 : Int32))).bind fun r47 =>
                 (gQst s45.2.2 (gTop v9.2.2) s45.1 r47).bind fun D48 =>
                 some (.inl ((s45.1 - (1 : Int32)), (s45.2.1, D48)))) ((8 : Int32), (v41.2.2.1, v41.2.2.2)))) (fun k40 =>
             if y39.1 = 0 then
              (gFr y39.2 y7.1 8 5).bind fun r49 =>
              (gLen y39.2 r49).bind fun z50 =>
              (F_X10_below y39.2 (gTop (gAI s.2 1 8)) (10 : Int32)).bind fun y51 =>
              jn (fun (v53 : Int32) =>
               (F_X10_below y51.2 (gTop (gAI s.2 1 8)) (z50 + v53)).bind fun y54 =>
               (gFr y54.2 y7.1 8 5).bind fun r55 =>
               (gLen y54.2 r55).bind fun z56 =>
               jn (fun (v58 : Int32) =>
                (F_L_openTour v36.2.1 y54.1).bind fun x59 =>
                (gFr (gBm y54.2 2) y7.1 8 5).bind fun r60 =>
                (gLen (gBm y54.2 2) r60).bind fun z61 =>
                jn (fun (v63 : Int32) =>
                 jn (fun (v65 : Int32) =>
                  if ¬ v58 = 0 then
                   (gFr (gBm y54.2 2) y7.1 8 6).bind fun r66 =>
                   (gFr (gBm y54.2 2) y7.1 8 6).bind fun r67 =>
                   (gLen (gBm y54.2 2) r67).bind fun z68 =>
                   (gFr (gBm y54.2 2) y7.1 8 5).bind fun r69 =>
                   (gIld (gBm y54.2 2) r69 1 y54.1).bind fun z70 =>
                   (F_L_inserted (gBm y54.2 2) r66 z68 z70).bind fun y71 =>
                   (gFst y71.2 y7.1 8 6 (.inr (.inr y71.1))).bind fun D72 =>
                   (gFr D72 y7.1 8 7).bind fun r73 =>
                   (F_L_with (gAI D72 1 0) r73 (gTop D72)).bind fun y74 =>
                   (gFst y74.2 y7.1 8 7 (.inr (.inr y74.1))).bind fun D75 =>
                   k40 (v65, v58, (x59.2, D75))
                  else
                   k40 (v65, v58, (x59.2, (gBm y54.2 2)))) (fun k64 =>
                  if ¬ x59.1 = v63 then
                   k64 ((0 : Int32))
                  else
                   k64 ((1 : Int32)))) (fun k62 =>
                 if ¬ y54.1 = z61 then
                  if v58 = 0 then
                   k62 ((-2000000099 : Int32))
                  else
                   (gFr (gBm y54.2 2) y7.1 8 7).bind fun r76 =>
                   (gLen (gBm y54.2 2) r76).bind fun z77 =>
                   k62 (z77)
                 else
                  k62 ((-2000000097 : Int32)))) (fun k57 =>
                if z56 ≤ y54.1 then
                 k57 ((0 : Int32))
                else
                 (gFr y54.2 y7.1 8 7).bind fun r78 =>
                 (gLen y54.2 r78).bind fun z79 =>
                 if (4 : Int32) ≤ z79 then
                  k57 ((0 : Int32))
                 else
                  k57 ((1 : Int32)))) (fun k52 =>
               if ¬ y51.1 = 0 then
                k52 ((0 : Int32))
               else
                k52 ((1 : Int32)))
             else
             if y39.1 = 1 then
              (gFr y39.2 y7.1 8 5).bind fun r80 =>
              (gLen y39.2 r80).bind fun z81 =>
              (F_X10_below y39.2 (gTop (gAI s.2 1 8)) (10 : Int32)).bind fun y82 =>
              jn (fun (v84 : Int32) =>
               (F_X10_below y82.2 (gTop (gAI s.2 1 8)) (z81 + v84)).bind fun y85 =>
               (gFr y85.2 y7.1 8 5).bind fun r86 =>
               (gLen y85.2 r86).bind fun z87 =>
               jn (fun (v89 : Int32) =>
                (F_L_openTour v36.2.1 y85.1).bind fun x90 =>
                (gFr (gBm y85.2 2) y7.1 8 5).bind fun r91 =>
                (gLen (gBm y85.2 2) r91).bind fun z92 =>
                jn (fun (v94 : Int32) =>
                 jn (fun (v96 : Int32) =>
                  if ¬ v89 = 0 then
                   (gFr (gBm y85.2 2) y7.1 8 6).bind fun r97 =>
                   (gFr (gBm y85.2 2) y7.1 8 6).bind fun r98 =>
                   (gLen (gBm y85.2 2) r98).bind fun z99 =>
                   (gFr (gBm y85.2 2) y7.1 8 5).bind fun r100 =>
                   (gIld (gBm y85.2 2) r100 1 y85.1).bind fun z101 =>
                   (F_L_inserted (gBm y85.2 2) r97 z99 z101).bind fun y102 =>
                   (gFst y102.2 y7.1 8 6 (.inr (.inr y102.1))).bind fun D103 =>
                   (gFr D103 y7.1 8 7).bind fun r104 =>
                   (F_L_with (gAI D103 1 0) r104 (gTop D103)).bind fun y105 =>
                   (gFst y105.2 y7.1 8 7 (.inr (.inr y105.1))).bind fun D106 =>
                   k40 (v96, v89, (x90.2, D106))
                  else
                   k40 (v96, v89, (x90.2, (gBm y85.2 2)))) (fun k95 =>
                  if ¬ x90.1 = v94 then
                   k95 ((0 : Int32))
                  else
                   k95 ((1 : Int32)))) (fun k93 =>
                 if ¬ y85.1 = z92 then
                  if v89 = 0 then
                   k93 ((-2000000099 : Int32))
                  else
                   (gFr (gBm y85.2 2) y7.1 8 7).bind fun r107 =>
                   (gLen (gBm y85.2 2) r107).bind fun z108 =>
                   k93 (z108)
                 else
                  k93 ((-2000000097 : Int32)))) (fun k88 =>
                if z87 ≤ y85.1 then
                 k88 ((0 : Int32))
                else
                 (gFr y85.2 y7.1 8 7).bind fun r109 =>
                 (gLen y85.2 r109).bind fun z110 =>
                 if (4 : Int32) ≤ z110 then
                  k88 ((0 : Int32))
                 else
                  k88 ((1 : Int32)))) (fun k83 =>
               if ¬ y82.1 = 0 then
                k83 ((0 : Int32))
               else
                k83 ((1 : Int32)))
             else
             if y39.1 = 2 then
              jn (fun (v112 : gRF × gST) =>
               jn (fun (v114 : Int32 × gST) =>
                jn (fun (v116 : Int32 × gST) =>
                 (F_L_drop v116.2.1 v30.1).bind fun x117 =>
                 if ¬ x117.1 = v116.1 then
                  k40 ((0 : Int32), v114.1, (x117.2, (gBm v116.2.2 3)))
                 else
                  k40 ((1 : Int32), v114.1, (x117.2, (gBm v116.2.2 3)))) (fun k115 =>
                 if v114.1 = 0 then
                  k115 (v38, (v114.2.1, v114.2.2))
                 else
                  (gFr v114.2.2 y7.1 8 7).bind fun r118 =>
                  (gIld v114.2.2 v36.1 1 (0 : Int32)).bind fun z119 =>
                  (gQst v114.2.2 r118 z119 v112.1).bind fun D120 =>
                  (gIld D120 v36.1 1 (0 : Int32)).bind fun z121 =>
                  (F_X8_price_ D120 y7.1 z121).bind fun y122 =>
                  k115 (y122.1, (v114.2.1, y122.2)))) (fun k113 =>
                if v112.1 = none then
                 k113 ((0 : Int32), (v112.2.1, v112.2.2))
                else
                 (gFr v112.2.2 y7.1 8 6).bind fun r123 =>
                 (gIld v112.2.2 v36.1 1 (0 : Int32)).bind fun z124 =>
                 (gIld v112.2.2 r123 1 z124).bind fun z125 =>
                 (F_X8_price v112.2.2 y7.1 z125 v112.1).bind fun y126 =>
                 if (500000 : Int32) ≤ y126.1 then
                  k113 ((0 : Int32), (v112.2.1, y126.2))
                 else
                  k113 ((1 : Int32), (v112.2.1, y126.2)))) (fun k111 =>
               if v36.1 = none then
                k111 (none, (v36.2.1, y39.2))
               else
                (gFr y39.2 y7.1 8 7).bind fun r127 =>
                (gIld y39.2 v36.1 1 (0 : Int32)).bind fun z128 =>
                (gQld y39.2 r127 z128).bind fun r129 =>
                (gIld y39.2 v36.1 1 (1 : Int32)).bind fun z130 =>
                (F_L_without y39.2 r129 z130).bind fun y131 =>
                k111 (y131.1, (v36.2.1, y131.2)))
             else
             if y39.1 = 3 then
              jn (fun (v133 : gRF × gST) =>
               jn (fun (v135 : gST) =>
                jn (fun (v137 : Int32 × gST) =>
                 jn (fun (v139 : Int32 × gST) =>
                  (F_L_flip v139.2.1 v30.1).bind fun x140 =>
                  if ¬ x140.1 = v139.1 then
                   k40 ((0 : Int32), v137.1, (x140.2, (gBm v139.2.2 3)))
                  else
                   k40 ((1 : Int32), v137.1, (x140.2, (gBm v139.2.2 3)))) (fun k138 =>
                  if v137.1 = 0 then
                   k138 (v38, (v137.2.1, v137.2.2))
                  else
                   (gFr v137.2.2 y7.1 8 7).bind fun r141 =>
                   (gIld v137.2.2 v36.1 1 (0 : Int32)).bind fun z142 =>
                   (gQst v137.2.2 r141 z142 v133.1).bind fun D143 =>
                   (gIld D143 v36.1 1 (0 : Int32)).bind fun z144 =>
                   (F_X8_price_ D143 y7.1 z144).bind fun y145 =>
                   k138 (y145.1, (v137.2.1, y145.2)))) (fun k136 =>
                 if v133.1 = none then
                  k136 ((0 : Int32), (v135.1, v135.2))
                 else
                  (gFr v135.2 y7.1 8 6).bind fun r146 =>
                  (gIld v135.2 v36.1 1 (0 : Int32)).bind fun z147 =>
                  (gIld v135.2 r146 1 z147).bind fun z148 =>
                  (F_X8_price v135.2 y7.1 z148 v133.1).bind fun y149 =>
                  if (500000 : Int32) ≤ y149.1 then
                   k136 ((0 : Int32), (v135.1, y149.2))
                  else
                   k136 ((1 : Int32), (v135.1, y149.2)))) (fun k134 =>
                if v133.1 = none then
                 k134 ((v133.2.1, v133.2.2))
                else
                 (gIld v133.2.2 v36.1 1 (1 : Int32)).bind fun z150 =>
                 (gIld v133.2.2 v133.1 1 z150).bind fun z151 =>
                 (gIst v133.2.2 v133.1 1 z150 (z151 ^^^ (1 : Int32))).bind fun D152 =>
                 k134 ((v133.2.1, D152)))) (fun k132 =>
               if v36.1 = none then
                k132 (none, (v36.2.1, y39.2))
               else
                (gFr y39.2 y7.1 8 7).bind fun r153 =>
                (gIld y39.2 v36.1 1 (0 : Int32)).bind fun z154 =>
                (gQld y39.2 r153 z154).bind fun r155 =>
                (gCln y39.2 r155 1).bind fun D156 =>
                (gIsA D156 (gTop y39.2) 1).bind fun u157 =>
                k132 ((gTop y39.2), (v36.2.1, D156)))
             else
             if y39.1 = 4 then
              jn (fun (v159 : gRF × gST) =>
               jn (fun (v161 : gST) =>
                jn (fun (v163 : Int32 × gST) =>
                 jn (fun (v165 : Int32 × gST) =>
                  (F_L_flip v165.2.1 v30.1).bind fun x166 =>
                  if ¬ x166.1 = v165.1 then
                   k40 ((0 : Int32), v163.1, (x166.2, (gBm v165.2.2 3)))
                  else
                   k40 ((1 : Int32), v163.1, (x166.2, (gBm v165.2.2 3)))) (fun k164 =>
                  if v163.1 = 0 then
                   k164 (v38, (v163.2.1, v163.2.2))
                  else
                   (gFr v163.2.2 y7.1 8 7).bind fun r167 =>
                   (gIld v163.2.2 v36.1 1 (0 : Int32)).bind fun z168 =>
                   (gQst v163.2.2 r167 z168 v159.1).bind fun D169 =>
                   (gIld D169 v36.1 1 (0 : Int32)).bind fun z170 =>
                   (F_X8_price_ D169 y7.1 z170).bind fun y171 =>
                   k164 (y171.1, (v163.2.1, y171.2)))) (fun k162 =>
                 if v159.1 = none then
                  k162 ((0 : Int32), (v161.1, v161.2))
                 else
                  (gFr v161.2 y7.1 8 6).bind fun r172 =>
                  (gIld v161.2 v36.1 1 (0 : Int32)).bind fun z173 =>
                  (gIld v161.2 r172 1 z173).bind fun z174 =>
                  (F_X8_price v161.2 y7.1 z174 v159.1).bind fun y175 =>
                  if (500000 : Int32) ≤ y175.1 then
                   k162 ((0 : Int32), (v161.1, y175.2))
                  else
                   k162 ((1 : Int32), (v161.1, y175.2)))) (fun k160 =>
                if v159.1 = none then
                 k160 ((v159.2.1, v159.2.2))
                else
                 (gIld v159.2.2 v36.1 1 (1 : Int32)).bind fun z176 =>
                 (gIld v159.2.2 v159.1 1 z176).bind fun z177 =>
                 (gIst v159.2.2 v159.1 1 z176 (z177 ^^^ (1 : Int32))).bind fun D178 =>
                 k160 ((v159.2.1, D178)))) (fun k158 =>
               if v36.1 = none then
                k158 (none, (v36.2.1, y39.2))
               else
                (gFr y39.2 y7.1 8 7).bind fun r179 =>
                (gIld y39.2 v36.1 1 (0 : Int32)).bind fun z180 =>
                (gQld y39.2 r179 z180).bind fun r181 =>
                (gCln y39.2 r181 1).bind fun D182 =>
                (gIsA D182 (gTop y39.2) 1).bind fun u183 =>
                k158 ((gTop y39.2), (v36.2.1, D182)))
             else
             if y39.1 = 5 then
              (F_X10_below y39.2 (gTop (gAI s.2 1 8)) (2 : Int32)).bind fun y184 =>
              jn (fun (v186 : Int32) =>
               if v186 = 0 then
                k40 (s10.1, v186, (v36.2.1, y184.2))
               else
                (F_X7_build v36.2.1).bind fun x187 =>
                (F_X8_build y184.2 y7.1).bind fun y188 =>
                if ¬ x187.1 = y188.1 then
                 k40 ((0 : Int32), v186, (x187.2, y188.2))
                else
                 k40 ((1 : Int32), v186, (x187.2, y188.2))) (fun k185 =>
               if ¬ y184.1 = 0 then
                k185 ((0 : Int32))
               else
                k185 ((1 : Int32)))
             else
             if y39.1 = 6 then
              (F_X10_below y39.2 (gTop (gAI s.2 1 8)) (3 : Int32)).bind fun y189 =>
              jn (fun (v191 : Int32) =>
               (F_L_improve v36.2.1 y189.1).bind fun x192 =>
               jn (fun (v194 : Int32 × gST) =>
                if ¬ x192.1 = v194.1 then
                 k40 ((0 : Int32), v191, (v194.2.1, v194.2.2))
                else
                 k40 ((1 : Int32), v191, (v194.2.1, v194.2.2))) (fun k193 =>
                if v191 = 0 then
                 k193 ((-2000000098 : Int32), (x192.2, (gBm y189.2 1)))
                else
                 (F_X8_improve (gBm y189.2 1) y7.1 y189.1).bind fun y195 =>
                 k193 (y195.1, (x192.2, y195.2)))) (fun k190 =>
               if y189.1 ≤ 0 then
                k190 ((0 : Int32))
               else
                k190 ((1 : Int32)))
             else
             (gFr y39.2 y7.1 8 7).bind fun r196 =>
             (gLen y39.2 r196).bind fun z197 =>
             (F_X10_below y39.2 (gTop (gAI s.2 1 8)) (z197 + (1 : Int32))).bind fun y198 =>
             (gFr y198.2 y7.1 8 7).bind fun r199 =>
             (gLen y198.2 r199).bind fun z200 =>
             jn (fun (v202 : Int32) =>
              jn (fun (v204 : Int32 × gST) =>
               (F_X10_below v204.2.2 (gTop (gAI s.2 1 8)) (2 : Int32)).bind fun y205 =>
               jn (fun (v207 : Int32) =>
                jn (fun (v209 : Int32 × gST) =>
                 jn (fun (v211 : Int32) =>
                  jn (fun (v213 : Int32 × gST) =>
                   (F_L_insert v213.2.1 y198.1 v204.1 (((2 : Int32) * v30.1) + y205.1)).bind fun x214 =>
                   if ¬ x214.1 = v213.1 then
                    k40 ((0 : Int32), v209.1, (x214.2, (gBm v213.2.2 5)))
                   else
                    k40 ((1 : Int32), v209.1, (x214.2, (gBm v213.2.2 5)))) (fun k212 =>
                   if v209.1 = 0 then
                    k212 (v211, (v209.2.1, v209.2.2))
                   else
                    (gFr v209.2.2 y7.1 8 7).bind fun r215 =>
                    (gFr v209.2.2 y7.1 8 7).bind fun r216 =>
                    (gQld v209.2.2 r216 y198.1).bind fun r217 =>
                    (F_L_inserted v209.2.2 r217 v204.1 (((2 : Int32) * v30.1) + y205.1)).bind fun y218 =>
                    (gQst y218.2 r215 y198.1 y218.1).bind fun D219 =>
                    (F_X8_price_ D219 y7.1 y198.1).bind fun y220 =>
                    k212 (y220.1, (v209.2.1, y220.2)))) (fun k210 =>
                  if v207 = 0 then
                   k210 ((-2000000097 : Int32))
                  else
                   k210 ((-2000000099 : Int32)))) (fun k208 =>
                 if v207 = 0 then
                  k208 ((0 : Int32), (v204.2.1, y205.2))
                 else
                  (F_X8_isOpen y205.2 y7.1 v30.1).bind fun y221 =>
                  if y221.1 = 0 then
                   k208 ((0 : Int32), (v204.2.1, y221.2))
                  else
                   (F_X8_fits y221.2 y7.1 y198.1 v204.1 (((2 : Int32) * v30.1) + y205.1)).bind fun y222 =>
                   if y222.1 = 0 then
                    k208 ((0 : Int32), (v204.2.1, y222.2))
                   else
                    k208 ((1 : Int32), (v204.2.1, y222.2)))) (fun k206 =>
                if v202 = 0 then
                 k206 ((0 : Int32))
                else
                 if v34 = 0 then
                  k206 ((0 : Int32))
                 else
                  (gFr y205.2 y7.1 8 7).bind fun r223 =>
                  (gQld y205.2 r223 y198.1).bind fun r224 =>
                  (gLen y205.2 r224).bind fun z225 =>
                  if z225 < v204.1 then
                   k206 ((0 : Int32))
                  else
                   k206 ((1 : Int32)))) (fun k203 =>
               if v202 = 0 then
                k203 ((0 : Int32), (v36.2.1, y198.2))
               else
                (gFr y198.2 y7.1 8 7).bind fun r226 =>
                (gQld y198.2 r226 y198.1).bind fun r227 =>
                (gLen y198.2 r227).bind fun z228 =>
                (F_X10_below y198.2 (gTop (gAI s.2 1 8)) (14 : Int32)).bind fun y229 =>
                jn (fun (v231 : Int32) =>
                 (F_X10_below y229.2 (gTop (gAI s.2 1 8)) (z228 + v231)).bind fun y232 =>
                 k203 (y232.1, (v36.2.1, y232.2))) (fun k230 =>
                 if ¬ y229.1 = 0 then
                  k230 ((1 : Int32))
                 else
                  k230 ((2 : Int32))))) (fun k201 =>
              if z200 ≤ y198.1 then
               k201 ((0 : Int32))
              else
               k201 ((1 : Int32))))) (fun k37 =>
            if v34 = 0 then
             k37 ((-2000000097 : Int32))
            else
             k37 ((-2000000099 : Int32)))) (fun k35 =>
           if v34 = 0 then
            k35 (none, (v30.2.1, v30.2.2))
           else
            (F_X8_where v30.2.2 y7.1 v30.1).bind fun y233 =>
            k35 (y233.1, (v30.2.1, y233.2)))) (fun k33 =>
          if z32 ≤ v30.1 then
           k33 ((0 : Int32))
          else
           k33 ((1 : Int32)))) (fun k29 =>
         if ¬ y28.1 = 0 then
          (gFr y28.2 y7.1 8 3).bind fun r234 =>
          (gLen y28.2 r234).bind fun z235 =>
          (F_X10_below y28.2 (gTop (gAI s.2 1 8)) z235).bind fun y236 =>
          k29 (y236.1, (s10.2.2.2.1, y236.2))
         else
          (gFr y28.2 y7.1 8 3).bind fun r237 =>
          (gLen y28.2 r237).bind fun z238 =>
          k29 (z238, (s10.2.2.2.1, y28.2))))) (v9.1, (0 : Int32), (0 : Int32), (v9.2.1, (gAQ v9.2.2 41 9)))) (fun k8 =>
    if v6.1 = 0 then
     k8 ((0 : Int32), (y7.2.1, y7.2.2))
    else
     (F_L_agrees (y7.2.1, y7.2.2) y7.1).bind fun y239 =>
     if y239.1 = 0 then
      k8 ((0 : Int32), (y239.2.1, y239.2.2))
     else
      k8 ((1 : Int32), (y239.2.1, y239.2.2)))) (fun k5 =>
  if y4.1 = 0 then
   k5 ((0 : Int32), (y4.2.1, y4.2.2))
  else
   if ¬ (F_X7_errorOffset y4.2.1) = (-1 : Int32) then
    k5 ((0 : Int32), (y4.2.1, y4.2.2))
   else
    (F_X7_undo y4.2.1).bind fun x240 =>
    if ¬ x240.1 = (-1 : Int32) then
     k5 ((0 : Int32), (x240.2, y4.2.2))
    else
     (F_L_openTour x240.2 (0 : Int32)).bind fun x241 =>
     if ¬ x241.1 = (-2000000097 : Int32) then
      k5 ((0 : Int32), (x241.2, (gBm y4.2.2 2)))
     else
      (F_L_insert x241.2 (0 : Int32) (0 : Int32) (0 : Int32)).bind fun x242 =>
      if ¬ x242.1 = (-2000000097 : Int32) then
       k5 ((0 : Int32), (x242.2, (gBm (gBm y4.2.2 2) 5)))
      else
       (F_L_improve x242.2 (0 : Int32)).bind fun x243 =>
       if ¬ x243.1 = (-2000000098 : Int32) then
        k5 ((0 : Int32), (x243.2, (gBm (gBm (gBm y4.2.2 2) 5) 1)))
       else
        (F_X7_matching x243.2).bind fun x244 =>
        if ¬ x244 = 0 then
         k5 ((0 : Int32), (x243.2, (gBm (gBm (gBm y4.2.2 2) 5) 1)))
        else
         k5 ((1 : Int32), (x243.2, (gBm (gBm (gBm y4.2.2 2) 5) 1))))
/-- the law's locals at its loop's head -/
def gLaw (ok i : Int32) : gLV := [some (.inr (.inr (some (.inr 5)))), some (.inl ok), some (.inl i), none, none, none, none, none, none, none, none, none, none, none, none, none, none, none, none, none, none, none, none, none, none]
set_option maxHeartbeats 8000000 in
set_option maxRecDepth 100000 in
theorem ok_L_turn (dX : Nat) (hX : 40 ≤ dX) (d : Nat) (hd : 30 ≤ d) (Q : gPO → gST → Prop) (PT9 : gLV → gST → Prop) (s : gST) (ok i : Int32) : GSimT (gEx dX d) (Ex dX) gmi_L_law Q PT9 (F_L_turn s ok i) (gsum (fun z => ∀ lv, ggo lv 0 = some (.inr (.inr (some (.inr 5)))) → ggo lv 1 = some (.inl z.1) → ggo lv 2 = some (.inl z.2.1) → PT9 lv z.2.2) (fun _ => False)) 27 [some (.inr (.inr (some (.inr 5)))), some (.inl ok), some (.inl i), some (.inr (.inr (some (.inr 0)))), none, none, none, none, none, none, none, none, none, none, none, none, none, none, none, none, none, none, none, none, none] [] (s.1, s.2) := by
  unfold F_L_turn
  refine gST9 rfl rfl ?_
  refine gST9 (s' := (s.1, (gAI s.2 1 8))) rfl rfl ?_
  refine gST9 (lv' := [some (.inr (.inr (some (.inr 5)))), some (.inl ok), some (.inl i), some (.inr (.inr (some (.inr 0)))), some (.inr (.inr (gTop s.2))), none, none, none, none, none, none, none, none, none, none, none, none, none, none, none, none, none, none, none, none]) rfl rfl ?_
  refine gST9 rfl rfl ?_
  refine gST9 rfl rfl ?_
  refine gST9 rfl rfl ?_
  refine gST9 rfl rfl ?_
  refine gOT9 rfl rfl (fun z1 => ?_)
  refine gCT9 (st' := fun y2 => [.inr (.inr (gTop (gAI s.2 1 8)))]) rfl rfl (fun _ _ => rfl) rfl (ok_X10_init dX hX d (by omega) s.1 (gNwO (gAI s.2 1 8) 10) (gTop (gAI s.2 1 8)) z1) (fun z => rfl) (fun y2 => ?_)
  refine gST9 (lv' := [some (.inr (.inr (some (.inr 5)))), some (.inl ok), some (.inl i), some (.inr (.inr (some (.inr 0)))), some (.inr (.inr (gTop s.2))), some (.inr (.inr (gTop (gAI s.2 1 8)))), none, none, none, none, none, none, none, none, none, none, none, none, none, none, none, none, none, none, none]) rfl rfl ?_
  refine gST9 rfl rfl ?_
  refine gST9 rfl rfl ?_
  refine gST9 rfl rfl ?_
  refine gCT9 (st' := fun y3 => [.inr (.inr (gTop y2)), .inr (.inr (some (.inr 0)))]) rfl rfl (fun _ _ => rfl) rfl (ok_X8_init dX hX d (by omega) s.1 (gNwO y2 8) (gTop y2)) (fun z => rfl) (fun y3 => ?_)
  refine gCT9 (st' := fun y4 => [.inl y4.1]) rfl rfl (fun _ _ => rfl) rfl (ok_L_agrees dX hX d (by omega) (s.1, y3) (gTop y2)) (fun z => rfl) (fun y4 => ?_)
  refine gJnT9 119 (fun (v6 : Int32 × gST) => [some (.inr (.inr (some (.inr 5)))), none, some (.inl i), some (.inr (.inr (some (.inr 0)))), some (.inr (.inr (gTop s.2))), some (.inr (.inr (gTop (gAI s.2 1 8)))), none, none, none, none, none, none, none, none, none, none, none, none, none, none, none, none, none, none, none]) (fun (v6 : Int32 × gST) => [.inl v6.1]) (fun (v6 : Int32 × gST) => (v6.2.1, v6.2.2)) (fun v6 => ?_) (fun k5 hk5 => ?_)
  · refine gST9 (lv' := [some (.inr (.inr (some (.inr 5)))), some (.inl v6.1), some (.inl i), some (.inr (.inr (some (.inr 0)))), some (.inr (.inr (gTop s.2))), some (.inr (.inr (gTop (gAI s.2 1 8)))), none, none, none, none, none, none, none, none, none, none, none, none, none, none, none, none, none, none, none]) rfl rfl ?_
    refine gST9 rfl rfl ?_
    refine gST9 rfl rfl ?_
    refine gST9 rfl rfl ?_
    refine gST9 rfl rfl ?_
    refine gCT9 (st' := fun y7 => [.inr (.inr y7.1)]) rfl rfl (fun _ _ => rfl) rfl (ok_L_randomCity dX hX d (by omega) (v6.2.1, v6.2.2) (gTop s.2) (gTop (gAI s.2 1 8)) (8 : Int32)) (fun z => rfl) (fun y7 => ?_)
    refine gST9 (lv' := [some (.inr (.inr (some (.inr 5)))), some (.inl v6.1), some (.inl i), some (.inr (.inr (some (.inr 0)))), some (.inr (.inr (gTop s.2))), some (.inr (.inr (gTop (gAI s.2 1 8)))), some (.inr (.inr y7.1)), none, none, none, none, none, none, none, none, none, none, none, none, none, none, none, none, none, none]) rfl rfl ?_
    refine gST9 rfl rfl ?_
    refine gBT9 rfl rfl ?_ ?_
    · refine gST9 rfl rfl ?_
      exact gRtT9 rfl rfl (fun hg => hg.elim)
    · refine gST9 rfl rfl ?_
      refine gJnT9 157 (fun (v9 : Int32 × gST) => [some (.inr (.inr (some (.inr 5)))), none, some (.inl i), some (.inr (.inr (some (.inr 0)))), none, some (.inr (.inr (gTop (gAI s.2 1 8)))), some (.inr (.inr y7.1)), none, none, none, none, none, none, none, none, none, none, none, none, none, none, none, none, none, none]) (fun (v9 : Int32 × gST) => [.inl v9.1]) (fun (v9 : Int32 × gST) => (v9.2.1, v9.2.2)) (fun v9 => ?_) (fun k8 hk8 => ?_)
      · refine gST9 (lv' := [some (.inr (.inr (some (.inr 5)))), some (.inl v9.1), some (.inl i), some (.inr (.inr (some (.inr 0)))), none, some (.inr (.inr (gTop (gAI s.2 1 8)))), some (.inr (.inr y7.1)), none, none, none, none, none, none, none, none, none, none, none, none, none, none, none, none, none, none]) rfl rfl ?_
        refine gST9 rfl rfl ?_
        refine gST9 (s' := (v9.2.1, (gAQ v9.2.2 41 9))) rfl rfl ?_
        refine gST9 (lv' := [some (.inr (.inr (some (.inr 5)))), some (.inl v9.1), some (.inl i), some (.inr (.inr (some (.inr 0)))), none, some (.inr (.inr (gTop (gAI s.2 1 8)))), some (.inr (.inr y7.1)), some (.inr (.inr (gTop v9.2.2))), none, none, none, none, none, none, none, none, none, none, none, none, none, none, none, none, none]) rfl rfl ?_
        refine gST9 rfl rfl ?_
        refine gST9 (lv' := [some (.inr (.inr (some (.inr 5)))), some (.inl v9.1), some (.inl i), some (.inr (.inr (some (.inr 0)))), none, some (.inr (.inr (gTop (gAI s.2 1 8)))), some (.inr (.inr y7.1)), some (.inr (.inr (gTop v9.2.2))), some (.inl (0 : Int32)), none, none, none, none, none, none, none, none, none, none, none, none, none, none, none, none]) rfl rfl ?_
        refine gST9 rfl rfl ?_
        refine gST9 (lv' := [some (.inr (.inr (some (.inr 5)))), some (.inl v9.1), some (.inl i), some (.inr (.inr (some (.inr 0)))), none, some (.inr (.inr (gTop (gAI s.2 1 8)))), some (.inr (.inr y7.1)), some (.inr (.inr (gTop v9.2.2))), some (.inl (0 : Int32)), some (.inl (0 : Int32)), none, none, none, none, none, none, none, none, none, none, none, none, none, none, none]) rfl rfl ?_
        refine gLT9 (pc := 171) (lv := fun (s10 : Int32 × Int32 × Int32 × gST) => [some (.inr (.inr (some (.inr 5)))), some (.inl s10.1), some (.inl i), some (.inr (.inr (some (.inr 0)))), none, some (.inr (.inr (gTop (gAI s.2 1 8)))), some (.inr (.inr y7.1)), some (.inr (.inr (gTop v9.2.2))), some (.inl s10.2.1), some (.inl s10.2.2.1), none, none, none, none, none, none, none, none, none, none, none, none, none, none, none]) (s := fun (s10 : Int32 × Int32 × Int32 × gST) => (s10.2.2.2.1, s10.2.2.2.2)) (fun s10 => ?_) (v9.1, (0 : Int32), (0 : Int32), (v9.2.1, (gAQ v9.2.2 41 9)))
        refine gST9 rfl rfl ?_
        refine gST9 rfl rfl ?_
        refine gJnT9 1108 (fun (v12 : Unit) => [some (.inr (.inr (some (.inr 5)))), some (.inl s10.1), some (.inl i), some (.inr (.inr (some (.inr 0)))), none, none, some (.inr (.inr y7.1)), some (.inr (.inr (gTop v9.2.2))), some (.inl s10.2.1), none, none, none, none, none, none, none, none, none, none, none, none, none, none, none, none]) (fun (v12 : Unit) => []) (fun (v12 : Unit) => (s10.2.2.2.1, s10.2.2.2.2)) (fun v12 => ?_) (fun k11 hk11 => ?_)
        · refine gST9 rfl rfl ?_
          refine gST9 (lv' := [some (.inr (.inr (some (.inr 5)))), some (.inl s10.1), some (.inl i), some (.inr (.inr (some (.inr 0)))), none, none, some (.inr (.inr y7.1)), some (.inr (.inr (gTop v9.2.2))), some (.inl s10.2.1), some (.inl (0 : Int32)), none, none, none, none, none, none, none, none, none, none, none, none, none, none, none]) rfl rfl ?_
          refine gLT9 (pc := 1111) (lv := fun (s13 : Int32 × Int32 × gST) => [some (.inr (.inr (some (.inr 5)))), some (.inl s13.1), some (.inl i), some (.inr (.inr (some (.inr 0)))), none, none, some (.inr (.inr y7.1)), some (.inr (.inr (gTop v9.2.2))), some (.inl s10.2.1), some (.inl s13.2.1), none, none, none, none, none, none, none, none, none, none, none, none, none, none, none]) (s := fun (s13 : Int32 × Int32 × gST) => (s13.2.2.1, s13.2.2.2)) (fun s13 => ?_) (s10.1, (0 : Int32), (s10.2.2.2.1, s10.2.2.2.2))
          refine gST9 rfl rfl ?_
          refine gST9 rfl rfl ?_
          refine gJnT9 1160 (fun (v15 : Unit) => [some (.inr (.inr (some (.inr 5)))), some (.inl s13.1), some (.inl i), some (.inr (.inr (some (.inr 0)))), none, none, some (.inr (.inr y7.1)), none, none, none, none, none, none, none, none, none, none, none, none, none, none, none, none, none, none]) (fun (v15 : Unit) => []) (fun (v15 : Unit) => (s13.2.2.1, s13.2.2.2)) (fun v15 => ?_) (fun k14 hk14 => ?_)
          · refine gST9 rfl rfl ?_
            refine gBT9 rfl rfl ?_ ?_
            · refine gST9 rfl rfl ?_
              refine gST9 (lv' := [some (.inr (.inr (some (.inr 5)))), some (.inl (0 : Int32)), some (.inl i), some (.inr (.inr (some (.inr 0)))), none, none, some (.inr (.inr y7.1)), none, none, none, none, none, none, none, none, none, none, none, none, none, none, none, none, none, none]) rfl rfl ?_
              refine gST9 (lv' := [some (.inr (.inr (some (.inr 5)))), some (.inl (0 : Int32)), some (.inl (i + (1 : Int32))), some (.inr (.inr (some (.inr 0)))), none, none, some (.inr (.inr y7.1)), none, none, none, none, none, none, none, none, none, none, none, none, none, none, none, none, none, none]) rfl rfl ?_
              refine gST9 rfl rfl ?_
              refine gUpT9 ?_
              refine gUpT9 ?_
              exact gJT9 (fun h2 => GPWT.stop (h2 _ rfl rfl rfl))
            · refine gST9 rfl rfl ?_
              refine gST9 rfl rfl ?_
              refine gXT9 (n := 1) (st' := fun x16 => [.inl x16.1]) (s' := fun x16 => (x16.2, (gBm s13.2.2.2 1))) rfl rfl rfl rfl rfl rfl (ok_L_load dX (by omega) s13.2.2.1 (1 : Int32)) (fun z => rfl) (fun z => rfl) (fun x16 => ?_)
              refine gST9 rfl rfl ?_
              refine gBT9 rfl rfl ?_ ?_
              · refine gST9 rfl rfl ?_
                refine gST9 (lv' := [some (.inr (.inr (some (.inr 5)))), some (.inl (0 : Int32)), some (.inl i), some (.inr (.inr (some (.inr 0)))), none, none, some (.inr (.inr y7.1)), none, none, none, none, none, none, none, none, none, none, none, none, none, none, none, none, none, none]) rfl rfl ?_
                refine gST9 (lv' := [some (.inr (.inr (some (.inr 5)))), some (.inl (0 : Int32)), some (.inl (i + (1 : Int32))), some (.inr (.inr (some (.inr 0)))), none, none, some (.inr (.inr y7.1)), none, none, none, none, none, none, none, none, none, none, none, none, none, none, none, none, none, none]) rfl rfl ?_
                refine gST9 rfl rfl ?_
                refine gUpT9 ?_
                refine gUpT9 ?_
                exact gJT9 (fun h2 => GPWT.stop (h2 _ rfl rfl rfl))
              · refine gST9 rfl rfl ?_
                refine gST9 rfl rfl ?_
                refine gST9 rfl rfl ?_
                refine gXT9 (n := 2) (st' := fun x17 => [.inl x17]) (s' := fun x17 => (x16.2, (gBm (gBm s13.2.2.2 1) 2))) rfl rfl rfl rfl rfl rfl (ok_L_edge dX (by omega) x16.2 (0 : Int32) (5 : Int32)) (fun z => rfl) (fun z => rfl) (fun x17 => ?_)
                refine gST9 rfl rfl ?_
                refine gBT9 rfl rfl ?_ ?_
                · refine gST9 rfl rfl ?_
                  refine gST9 (lv' := [some (.inr (.inr (some (.inr 5)))), some (.inl (0 : Int32)), some (.inl i), some (.inr (.inr (some (.inr 0)))), none, none, some (.inr (.inr y7.1)), none, none, none, none, none, none, none, none, none, none, none, none, none, none, none, none, none, none]) rfl rfl ?_
                  refine gST9 (lv' := [some (.inr (.inr (some (.inr 5)))), some (.inl (0 : Int32)), some (.inl (i + (1 : Int32))), some (.inr (.inr (some (.inr 0)))), none, none, some (.inr (.inr y7.1)), none, none, none, none, none, none, none, none, none, none, none, none, none, none, none, none, none, none]) rfl rfl ?_
                  refine gST9 rfl rfl ?_
                  refine gUpT9 ?_
                  refine gUpT9 ?_
                  exact gJT9 (fun h2 => GPWT.stop (h2 _ rfl rfl rfl))
                · refine gST9 rfl rfl ?_
                  refine gST9 rfl rfl ?_
                  refine gST9 rfl rfl ?_
                  refine gXT9 (n := 2) (st' := fun x18 => [.inl x18]) (s' := fun x18 => (x16.2, (gBm (gBm (gBm s13.2.2.2 1) 2) 2))) rfl rfl rfl rfl rfl rfl (ok_L_edge dX (by omega) x16.2 (-1 : Int32) (5 : Int32)) (fun z => rfl) (fun z => rfl) (fun x18 => ?_)
                  refine gST9 rfl rfl ?_
                  refine gBT9 rfl rfl ?_ ?_
                  · refine gST9 rfl rfl ?_
                    refine gST9 (lv' := [some (.inr (.inr (some (.inr 5)))), some (.inl (0 : Int32)), some (.inl i), some (.inr (.inr (some (.inr 0)))), none, none, some (.inr (.inr y7.1)), none, none, none, none, none, none, none, none, none, none, none, none, none, none, none, none, none, none]) rfl rfl ?_
                    refine gST9 (lv' := [some (.inr (.inr (some (.inr 5)))), some (.inl (0 : Int32)), some (.inl (i + (1 : Int32))), some (.inr (.inr (some (.inr 0)))), none, none, some (.inr (.inr y7.1)), none, none, none, none, none, none, none, none, none, none, none, none, none, none, none, none, none, none]) rfl rfl ?_
                    refine gST9 rfl rfl ?_
                    refine gUpT9 ?_
                    refine gUpT9 ?_
                    exact gJT9 (fun h2 => GPWT.stop (h2 _ rfl rfl rfl))
                  · refine gST9 rfl rfl ?_
                    refine gST9 rfl rfl ?_
                    refine gST9 rfl rfl ?_
                    refine gCT9 (st' := fun y19 => [.inl y19, .inl (0 : Int32), .inr (.inr (some (.inr 0)))]) rfl rfl (fun _ hz => rv_recv (ci := 8) (by omega) (rv_X8_arcs hz)) rfl (ok_X8_arcs dX hX d (by omega) x16.2 (gBm (gBm (gBm s13.2.2.2 1) 2) 2) y7.1) (fun z => rfl) (fun y19 => ?_)
                    refine gXT9 (n := 2) (st' := fun x20 => [.inl x20]) (s' := fun x20 => (x16.2, (gBm (gBm (gBm (gBm s13.2.2.2 1) 2) 2) 2))) rfl rfl rfl rfl rfl rfl (ok_L_deadhead dX (by omega) x16.2 (0 : Int32) y19) (fun z => rfl) (fun z => rfl) (fun x20 => ?_)
                    refine gST9 rfl rfl ?_
                    refine gBT9 rfl rfl ?_ ?_
                    · refine gST9 rfl rfl ?_
                      refine gST9 (lv' := [some (.inr (.inr (some (.inr 5)))), some (.inl (0 : Int32)), some (.inl i), some (.inr (.inr (some (.inr 0)))), none, none, some (.inr (.inr y7.1)), none, none, none, none, none, none, none, none, none, none, none, none, none, none, none, none, none, none]) rfl rfl ?_
                      refine gST9 (lv' := [some (.inr (.inr (some (.inr 5)))), some (.inl (0 : Int32)), some (.inl (i + (1 : Int32))), some (.inr (.inr (some (.inr 0)))), none, none, some (.inr (.inr y7.1)), none, none, none, none, none, none, none, none, none, none, none, none, none, none, none, none, none, none]) rfl rfl ?_
                      refine gST9 rfl rfl ?_
                      refine gUpT9 ?_
                      refine gUpT9 ?_
                      exact gJT9 (fun h2 => GPWT.stop (h2 _ rfl rfl rfl))
                    · refine gST9 rfl rfl ?_
                      refine gST9 rfl rfl ?_
                      refine gOT9 rfl rfl (fun r21 => ?_)
                      refine gOT9 rfl rfl (fun z22 => ?_)
                      refine gXT9 (n := 2) (st' := fun x23 => [.inl x23]) (s' := fun x23 => (x16.2, (gBm (gBm (gBm (gBm (gBm s13.2.2.2 1) 2) 2) 2) 2))) rfl rfl rfl rfl rfl rfl (ok_L_bestInsertion dX (by omega) x16.2 z22) (fun z => rfl) (fun z => rfl) (fun x23 => ?_)
                      refine gST9 rfl rfl ?_
                      refine gBT9 rfl rfl ?_ ?_
                      · refine gST9 rfl rfl ?_
                        refine gST9 (lv' := [some (.inr (.inr (some (.inr 5)))), some (.inl (0 : Int32)), some (.inl i), some (.inr (.inr (some (.inr 0)))), none, none, some (.inr (.inr y7.1)), none, none, none, none, none, none, none, none, none, none, none, none, none, none, none, none, none, none]) rfl rfl ?_
                        refine gST9 (lv' := [some (.inr (.inr (some (.inr 5)))), some (.inl (0 : Int32)), some (.inl (i + (1 : Int32))), some (.inr (.inr (some (.inr 0)))), none, none, some (.inr (.inr y7.1)), none, none, none, none, none, none, none, none, none, none, none, none, none, none, none, none, none, none]) rfl rfl ?_
                        refine gST9 rfl rfl ?_
                        refine gUpT9 ?_
                        refine gUpT9 ?_
                        exact gJT9 (fun h2 => GPWT.stop (h2 _ rfl rfl rfl))
                      · refine gST9 rfl rfl ?_
                        refine gST9 rfl rfl ?_
                        refine gST9 (lv' := [some (.inr (.inr (some (.inr 5)))), some (.inl (1 : Int32)), some (.inl i), some (.inr (.inr (some (.inr 0)))), none, none, some (.inr (.inr y7.1)), none, none, none, none, none, none, none, none, none, none, none, none, none, none, none, none, none, none]) rfl rfl ?_
                        refine gST9 (lv' := [some (.inr (.inr (some (.inr 5)))), some (.inl (1 : Int32)), some (.inl (i + (1 : Int32))), some (.inr (.inr (some (.inr 0)))), none, none, some (.inr (.inr y7.1)), none, none, none, none, none, none, none, none, none, none, none, none, none, none, none, none, none, none]) rfl rfl ?_
                        refine gST9 rfl rfl ?_
                        refine gUpT9 ?_
                        refine gUpT9 ?_
                        exact gJT9 (fun h2 => GPWT.stop (h2 _ rfl rfl rfl))
          · refine gBT9 rfl rfl ?_ ?_
            · refine gMkT9 [true, true, true, true, true, true, true, false, false, false, true, true, true, true, true, true, true, true, true, true, true, true, true, true, true] (lv' := [some (.inr (.inr (some (.inr 5)))), some (.inl s13.1), some (.inl i), some (.inr (.inr (some (.inr 0)))), none, none, some (.inr (.inr y7.1)), none, none, none, none, none, none, none, none, none, none, none, none, none, none, none, none, none, none]) rfl rfl ?_
              have h3 := hk14 ()
              exact h3
            · refine gST9 rfl rfl ?_
              refine gST9 rfl rfl ?_
              refine gBT9 rfl rfl ?_ ?_
              · refine gMkT9 [true, true, true, true, true, true, true, false, false, false, true, true, true, true, true, true, true, true, true, true, true, true, true, true, true] (lv' := [some (.inr (.inr (some (.inr 5)))), some (.inl s13.1), some (.inl i), some (.inr (.inr (some (.inr 0)))), none, none, some (.inr (.inr y7.1)), none, none, none, none, none, none, none, none, none, none, none, none, none, none, none, none, none, none]) rfl rfl ?_
                have h3 := hk14 ()
                exact h3
              · refine gST9 rfl rfl ?_
                refine gBT9 rfl rfl ?_ ?_
                · refine gMkT9 [true, true, true, true, true, true, true, false, false, false, true, true, true, true, true, true, true, true, true, true, true, true, true, true, true] (lv' := [some (.inr (.inr (some (.inr 5)))), some (.inl s13.1), some (.inl i), some (.inr (.inr (some (.inr 0)))), none, none, some (.inr (.inr y7.1)), none, none, none, none, none, none, none, none, none, none, none, none, none, none, none, none, none, none]) rfl rfl ?_
                  have h3 := hk14 ()
                  exact h3
                · refine gST9 rfl rfl ?_
                  refine gXT9 (n := 0) (st' := fun x24 => [.inl x24.1]) (s' := fun x24 => (x24.2, s13.2.2.2)) rfl rfl rfl rfl rfl rfl (ok_X7_undo dX (by omega) s13.2.2.1) (fun z => rfl) (fun z => rfl) (fun x24 => ?_)
                  refine gBT9 rfl rfl ?_ ?_
                  · refine gST9 rfl rfl ?_
                    refine gST9 (lv' := [some (.inr (.inr (some (.inr 5)))), some (.inl (0 : Int32)), some (.inl i), some (.inr (.inr (some (.inr 0)))), none, none, some (.inr (.inr y7.1)), some (.inr (.inr (gTop v9.2.2))), some (.inl s10.2.1), some (.inl s13.2.1), none, none, none, none, none, none, none, none, none, none, none, none, none, none, none]) rfl rfl ?_
                    refine gST9 (lv' := [some (.inr (.inr (some (.inr 5)))), some (.inl (0 : Int32)), some (.inl i), some (.inr (.inr (some (.inr 0)))), none, none, some (.inr (.inr y7.1)), some (.inr (.inr (gTop v9.2.2))), some (.inl s10.2.1), some (.inl (s13.2.1 + (1 : Int32))), none, none, none, none, none, none, none, none, none, none, none, none, none, none, none]) rfl rfl ?_
                    refine gST9 rfl rfl ?_
                    exact gJT9 (fun h2 => h2)
                  · refine gST9 rfl rfl ?_
                    refine gST9 rfl rfl ?_
                    refine gST9 rfl rfl ?_
                    refine gOT9 rfl rfl (fun r25 => ?_)
                    refine gCT9 (st' := fun y26 => [.inl y26.1]) rfl rfl (fun _ _ => rfl) rfl (ok_L_agrees dX hX d (by omega) (x24.2, s13.2.2.2) r25) (fun z => rfl) (fun y26 => ?_)
                    refine gBT9 rfl rfl ?_ ?_
                    · refine gST9 rfl rfl ?_
                      refine gST9 (lv' := [some (.inr (.inr (some (.inr 5)))), some (.inl (0 : Int32)), some (.inl i), some (.inr (.inr (some (.inr 0)))), none, none, some (.inr (.inr y7.1)), some (.inr (.inr (gTop v9.2.2))), some (.inl s10.2.1), some (.inl s13.2.1), none, none, none, none, none, none, none, none, none, none, none, none, none, none, none]) rfl rfl ?_
                      refine gST9 (lv' := [some (.inr (.inr (some (.inr 5)))), some (.inl (0 : Int32)), some (.inl i), some (.inr (.inr (some (.inr 0)))), none, none, some (.inr (.inr y7.1)), some (.inr (.inr (gTop v9.2.2))), some (.inl s10.2.1), some (.inl (s13.2.1 + (1 : Int32))), none, none, none, none, none, none, none, none, none, none, none, none, none, none, none]) rfl rfl ?_
                      refine gST9 rfl rfl ?_
                      exact gJT9 (fun h2 => h2)
                    · refine gST9 rfl rfl ?_
                      refine gST9 rfl rfl ?_
                      refine gST9 (lv' := [some (.inr (.inr (some (.inr 5)))), some (.inl (1 : Int32)), some (.inl i), some (.inr (.inr (some (.inr 0)))), none, none, some (.inr (.inr y7.1)), some (.inr (.inr (gTop v9.2.2))), some (.inl s10.2.1), some (.inl s13.2.1), none, none, none, none, none, none, none, none, none, none, none, none, none, none, none]) rfl rfl ?_
                      refine gST9 (lv' := [some (.inr (.inr (some (.inr 5)))), some (.inl (1 : Int32)), some (.inl i), some (.inr (.inr (some (.inr 0)))), none, none, some (.inr (.inr y7.1)), some (.inr (.inr (gTop v9.2.2))), some (.inl s10.2.1), some (.inl (s13.2.1 + (1 : Int32))), none, none, none, none, none, none, none, none, none, none, none, none, none, none, none]) rfl rfl ?_
                      refine gST9 rfl rfl ?_
                      exact gJT9 (fun h2 => h2)
        · refine gBT9 rfl rfl ?_ ?_
          · refine gMkT9 [true, true, true, true, true, false, true, true, true, false, true, true, true, true, true, true, true, true, true, true, true, true, true, true, true] (lv' := [some (.inr (.inr (some (.inr 5)))), some (.inl s10.1), some (.inl i), some (.inr (.inr (some (.inr 0)))), none, none, some (.inr (.inr y7.1)), some (.inr (.inr (gTop v9.2.2))), some (.inl s10.2.1), none, none, none, none, none, none, none, none, none, none, none, none, none, none, none, none]) rfl rfl ?_
            have h3 := hk11 ()
            exact h3
          · refine gST9 rfl rfl ?_
            refine gBT9 rfl rfl ?_ ?_
            · refine gMkT9 [true, true, true, true, true, false, true, true, true, false, true, true, true, true, true, true, true, true, true, true, true, true, true, true, true] (lv' := [some (.inr (.inr (some (.inr 5)))), some (.inl s10.1), some (.inl i), some (.inr (.inr (some (.inr 0)))), none, none, some (.inr (.inr y7.1)), some (.inr (.inr (gTop v9.2.2))), some (.inl s10.2.1), none, none, none, none, none, none, none, none, none, none, none, none, none, none, none, none]) rfl rfl ?_
              have h3 := hk11 ()
              exact h3
            · refine gST9 rfl rfl ?_
              refine gCT9 (st' := fun y27 => [.inr (.inr y27.1)]) rfl rfl (fun _ hz => rv_recv (ci := 8) (by omega) (rv_X8_copy hz)) rfl (ok_X8_copy dX hX d (by omega) s10.2.2.2.1 s10.2.2.2.2 y7.1) (fun z => rfl) (fun y27 => ?_)
              refine gST9 (lv' := [some (.inr (.inr (some (.inr 5)))), some (.inl s10.1), some (.inl i), some (.inr (.inr (some (.inr 0)))), none, some (.inr (.inr (gTop (gAI s.2 1 8)))), some (.inr (.inr y7.1)), some (.inr (.inr (gTop v9.2.2))), some (.inl s10.2.1), some (.inl s10.2.2.1), some (.inr (.inr y27.1)), none, none, none, none, none, none, none, none, none, none, none, none, none, none]) rfl rfl ?_
              refine gST9 rfl rfl ?_
              refine gST9 (lv' := [some (.inr (.inr (some (.inr 5)))), some (.inl s10.1), some (.inl i), some (.inr (.inr (some (.inr 0)))), none, some (.inr (.inr (gTop (gAI s.2 1 8)))), some (.inr (.inr y7.1)), some (.inr (.inr (gTop v9.2.2))), some (.inl s10.2.1), some (.inl s10.2.2.1), some (.inr (.inr y27.1)), some (.inl (1 : Int32)), none, none, none, none, none, none, none, none, none, none, none, none, none]) rfl rfl ?_
              refine gST9 rfl rfl ?_
              refine gST9 rfl rfl ?_
              refine gCT9 (st' := fun y28 => [.inl y28.1]) rfl rfl (fun _ hz => rv_recv (ci := 10) (by omega) (rv_X10_below hz)) rfl (ok_X10_below dX hX d (by omega) s10.2.2.2.1 y27.2 (gTop (gAI s.2 1 8)) (14 : Int32)) (fun z => rfl) (fun y28 => ?_)
              refine gJnT9 222 (fun (v30 : Int32 × gST) => [some (.inr (.inr (some (.inr 5)))), some (.inl s10.1), some (.inl i), some (.inr (.inr (some (.inr 0)))), none, some (.inr (.inr (gTop (gAI s.2 1 8)))), some (.inr (.inr y7.1)), some (.inr (.inr (gTop v9.2.2))), some (.inl s10.2.1), some (.inl s10.2.2.1), some (.inr (.inr y27.1)), none, none, none, none, none, none, none, none, none, none, none, none, none, none]) (fun (v30 : Int32 × gST) => [.inl v30.1]) (fun (v30 : Int32 × gST) => (v30.2.1, v30.2.2)) (fun v30 => ?_) (fun k29 hk29 => ?_)
              · refine gST9 (lv' := [some (.inr (.inr (some (.inr 5)))), some (.inl s10.1), some (.inl i), some (.inr (.inr (some (.inr 0)))), none, some (.inr (.inr (gTop (gAI s.2 1 8)))), some (.inr (.inr y7.1)), some (.inr (.inr (gTop v9.2.2))), some (.inl s10.2.1), some (.inl s10.2.2.1), some (.inr (.inr y27.1)), none, some (.inl v30.1), none, none, none, none, none, none, none, none, none, none, none, none]) rfl rfl ?_
                refine gST9 rfl rfl ?_
                refine gST9 rfl rfl ?_
                refine gOT9 rfl rfl (fun r31 => ?_)
                refine gOT9 rfl rfl (fun z32 => ?_)
                refine gJnT9 240 (fun (v34 : Int32) => [some (.inr (.inr (some (.inr 5)))), some (.inl s10.1), some (.inl i), some (.inr (.inr (some (.inr 0)))), none, some (.inr (.inr (gTop (gAI s.2 1 8)))), some (.inr (.inr y7.1)), some (.inr (.inr (gTop v9.2.2))), some (.inl s10.2.1), some (.inl s10.2.2.1), some (.inr (.inr y27.1)), none, some (.inl v30.1), none, none, none, none, none, none, none, none, none, none, none, none]) (fun (v34 : Int32) => [.inl v34]) (fun (v34 : Int32) => (v30.2.1, v30.2.2)) (fun v34 => ?_) (fun k33 hk33 => ?_)
                · refine gST9 (lv' := [some (.inr (.inr (some (.inr 5)))), some (.inl s10.1), some (.inl i), some (.inr (.inr (some (.inr 0)))), none, some (.inr (.inr (gTop (gAI s.2 1 8)))), some (.inr (.inr y7.1)), some (.inr (.inr (gTop v9.2.2))), some (.inl s10.2.1), some (.inl s10.2.2.1), some (.inr (.inr y27.1)), none, some (.inl v30.1), some (.inl v34), none, none, none, none, none, none, none, none, none, none, none]) rfl rfl ?_
                  refine gST9 rfl rfl ?_
                  refine gJnT9 258 (fun (v36 : gRF × gST) => [some (.inr (.inr (some (.inr 5)))), some (.inl s10.1), some (.inl i), some (.inr (.inr (some (.inr 0)))), none, some (.inr (.inr (gTop (gAI s.2 1 8)))), some (.inr (.inr y7.1)), some (.inr (.inr (gTop v9.2.2))), some (.inl s10.2.1), some (.inl s10.2.2.1), some (.inr (.inr y27.1)), none, some (.inl v30.1), some (.inl v34), none, none, none, none, none, none, none, none, none, none, none]) (fun (v36 : gRF × gST) => [.inr (.inr v36.1)]) (fun (v36 : gRF × gST) => (v36.2.1, v36.2.2)) (fun v36 => ?_) (fun k35 hk35 => ?_)
                  · refine gST9 (lv' := [some (.inr (.inr (some (.inr 5)))), some (.inl s10.1), some (.inl i), some (.inr (.inr (some (.inr 0)))), none, some (.inr (.inr (gTop (gAI s.2 1 8)))), some (.inr (.inr y7.1)), some (.inr (.inr (gTop v9.2.2))), some (.inl s10.2.1), some (.inl s10.2.2.1), some (.inr (.inr y27.1)), none, some (.inl v30.1), some (.inl v34), some (.inr (.inr v36.1)), none, none, none, none, none, none, none, none, none, none]) rfl rfl ?_
                    refine gST9 rfl rfl ?_
                    refine gJnT9 272 (fun (v38 : Int32) => [some (.inr (.inr (some (.inr 5)))), some (.inl s10.1), some (.inl i), some (.inr (.inr (some (.inr 0)))), none, some (.inr (.inr (gTop (gAI s.2 1 8)))), some (.inr (.inr y7.1)), some (.inr (.inr (gTop v9.2.2))), some (.inl s10.2.1), some (.inl s10.2.2.1), some (.inr (.inr y27.1)), none, some (.inl v30.1), some (.inl v34), some (.inr (.inr v36.1)), none, none, none, none, none, none, none, none, none, none]) (fun (v38 : Int32) => [.inl v38]) (fun (v38 : Int32) => (v36.2.1, v36.2.2)) (fun v38 => ?_) (fun k37 hk37 => ?_)
                    · refine gST9 (lv' := [some (.inr (.inr (some (.inr 5)))), some (.inl s10.1), some (.inl i), some (.inr (.inr (some (.inr 0)))), none, some (.inr (.inr (gTop (gAI s.2 1 8)))), some (.inr (.inr y7.1)), some (.inr (.inr (gTop v9.2.2))), some (.inl s10.2.1), some (.inl s10.2.2.1), some (.inr (.inr y27.1)), none, some (.inl v30.1), some (.inl v34), some (.inr (.inr v36.1)), some (.inl v38), none, none, none, none, none, none, none, none, none]) rfl rfl ?_
                      refine gST9 rfl rfl ?_
                      refine gST9 rfl rfl ?_
                      refine gCT9 (st' := fun y39 => [.inl y39.1]) rfl rfl (fun _ hz => rv_recv (ci := 10) (by omega) (rv_X10_below hz)) rfl (ok_X10_below dX hX d (by omega) v36.2.1 v36.2.2 (gTop (gAI s.2 1 8)) (12 : Int32)) (fun z => rfl) (fun y39 => ?_)
                      refine gJnT9 1042 (fun (v41 : Int32 × Int32 × gST) => [some (.inr (.inr (some (.inr 5)))), some (.inl v41.1), some (.inl i), some (.inr (.inr (some (.inr 0)))), none, some (.inr (.inr (gTop (gAI s.2 1 8)))), some (.inr (.inr y7.1)), some (.inr (.inr (gTop v9.2.2))), some (.inl s10.2.1), some (.inl s10.2.2.1), some (.inr (.inr y27.1)), some (.inl v41.2.1), none, none, none, none, none, none, none, none, none, none, none, none, none]) (fun (v41 : Int32 × Int32 × gST) => []) (fun (v41 : Int32 × Int32 × gST) => (v41.2.2.1, v41.2.2.2)) (fun v41 => ?_) (fun k40 hk40 => ?_)
                      · refine gST9 rfl rfl ?_
                        refine gJnT9 1083 (fun (v43 : Int32 × gST) => [some (.inr (.inr (some (.inr 5)))), some (.inl v41.1), some (.inl i), some (.inr (.inr (some (.inr 0)))), none, some (.inr (.inr (gTop (gAI s.2 1 8)))), some (.inr (.inr y7.1)), some (.inr (.inr (gTop v9.2.2))), some (.inl v43.1), some (.inl s10.2.2.1), none, none, none, none, none, none, none, none, none, none, none, none, none, none, none]) (fun (v43 : Int32 × gST) => []) (fun (v43 : Int32 × gST) => (v43.2.1, v43.2.2)) (fun v43 => ?_) (fun k42 hk42 => ?_)
                        · refine gST9 rfl rfl ?_
                          refine gBT9 rfl rfl ?_ ?_
                          · refine gST9 rfl rfl ?_
                            refine gST9 (lv' := [some (.inr (.inr (some (.inr 5)))), some (.inl (0 : Int32)), some (.inl i), some (.inr (.inr (some (.inr 0)))), none, some (.inr (.inr (gTop (gAI s.2 1 8)))), some (.inr (.inr y7.1)), some (.inr (.inr (gTop v9.2.2))), some (.inl v43.1), some (.inl s10.2.2.1), none, none, none, none, none, none, none, none, none, none, none, none, none, none, none]) rfl rfl ?_
                            refine gST9 (lv' := [some (.inr (.inr (some (.inr 5)))), some (.inl (0 : Int32)), some (.inl i), some (.inr (.inr (some (.inr 0)))), none, some (.inr (.inr (gTop (gAI s.2 1 8)))), some (.inr (.inr y7.1)), some (.inr (.inr (gTop v9.2.2))), some (.inl v43.1), some (.inl (s10.2.2.1 + (1 : Int32))), none, none, none, none, none, none, none, none, none, none, none, none, none, none, none]) rfl rfl ?_
                            refine gST9 rfl rfl ?_
                            exact gJT9 (fun h2 => h2)
                          · refine gST9 rfl rfl ?_
                            refine gST9 rfl rfl ?_
                            refine gCT9 (st' := fun y44 => [.inl y44.1]) rfl rfl (fun _ _ => rfl) rfl (ok_L_agrees dX hX d (by omega) (v43.2.1, v43.2.2) y7.1) (fun z => rfl) (fun y44 => ?_)
                            refine gBT9 rfl rfl ?_ ?_
                            · refine gST9 rfl rfl ?_
                              refine gST9 (lv' := [some (.inr (.inr (some (.inr 5)))), some (.inl (0 : Int32)), some (.inl i), some (.inr (.inr (some (.inr 0)))), none, some (.inr (.inr (gTop (gAI s.2 1 8)))), some (.inr (.inr y7.1)), some (.inr (.inr (gTop v9.2.2))), some (.inl v43.1), some (.inl s10.2.2.1), none, none, none, none, none, none, none, none, none, none, none, none, none, none, none]) rfl rfl ?_
                              refine gST9 (lv' := [some (.inr (.inr (some (.inr 5)))), some (.inl (0 : Int32)), some (.inl i), some (.inr (.inr (some (.inr 0)))), none, some (.inr (.inr (gTop (gAI s.2 1 8)))), some (.inr (.inr y7.1)), some (.inr (.inr (gTop v9.2.2))), some (.inl v43.1), some (.inl (s10.2.2.1 + (1 : Int32))), none, none, none, none, none, none, none, none, none, none, none, none, none, none, none]) rfl rfl ?_
                              refine gST9 rfl rfl ?_
                              exact gJT9 (fun h2 => h2)
                            · refine gST9 rfl rfl ?_
                              refine gST9 rfl rfl ?_
                              refine gST9 (lv' := [some (.inr (.inr (some (.inr 5)))), some (.inl (1 : Int32)), some (.inl i), some (.inr (.inr (some (.inr 0)))), none, some (.inr (.inr (gTop (gAI s.2 1 8)))), some (.inr (.inr y7.1)), some (.inr (.inr (gTop v9.2.2))), some (.inl v43.1), some (.inl s10.2.2.1), none, none, none, none, none, none, none, none, none, none, none, none, none, none, none]) rfl rfl ?_
                              refine gST9 (lv' := [some (.inr (.inr (some (.inr 5)))), some (.inl (1 : Int32)), some (.inl i), some (.inr (.inr (some (.inr 0)))), none, some (.inr (.inr (gTop (gAI s.2 1 8)))), some (.inr (.inr y7.1)), some (.inr (.inr (gTop v9.2.2))), some (.inl v43.1), some (.inl (s10.2.2.1 + (1 : Int32))), none, none, none, none, none, none, none, none, none, none, none, none, none, none, none]) rfl rfl ?_
                              refine gST9 rfl rfl ?_
                              exact gJT9 (fun h2 => h2)
                        · refine gBT9 rfl rfl ?_ ?_
                          · refine gMkT9 [true, true, true, true, true, true, true, true, true, true, false, false, true, true, true, true, true, true, true, true, true, true, true, true, true] (lv' := [some (.inr (.inr (some (.inr 5)))), some (.inl v41.1), some (.inl i), some (.inr (.inr (some (.inr 0)))), none, some (.inr (.inr (gTop (gAI s.2 1 8)))), some (.inr (.inr y7.1)), some (.inr (.inr (gTop v9.2.2))), some (.inl s10.2.1), some (.inl s10.2.2.1), none, none, none, none, none, none, none, none, none, none, none, none, none, none, none]) rfl rfl ?_
                            have h3 := hk42 (s10.2.1, (v41.2.2.1, v41.2.2.2))
                            exact h3
                          · refine gST9 rfl rfl ?_
                            refine gST9 (lv' := [some (.inr (.inr (some (.inr 5)))), some (.inl v41.1), some (.inl i), some (.inr (.inr (some (.inr 0)))), none, some (.inr (.inr (gTop (gAI s.2 1 8)))), some (.inr (.inr y7.1)), some (.inr (.inr (gTop v9.2.2))), some (.inl s10.2.1), some (.inl s10.2.2.1), some (.inr (.inr y27.1)), some (.inl v41.2.1), none, none, none, none, some (.inl (8 : Int32)), none, none, none, none, none, none, none, none]) rfl rfl ?_
                            refine gMkT9 [true, true, true, true, true, true, true, true, true, true, true, false, true, true, true, true, true, true, true, true, true, true, true, true, true] (lv' := [some (.inr (.inr (some (.inr 5)))), some (.inl v41.1), some (.inl i), some (.inr (.inr (some (.inr 0)))), none, some (.inr (.inr (gTop (gAI s.2 1 8)))), some (.inr (.inr y7.1)), some (.inr (.inr (gTop v9.2.2))), some (.inl s10.2.1), some (.inl s10.2.2.1), some (.inr (.inr y27.1)), none, none, none, none, none, some (.inl (8 : Int32)), none, none, none, none, none, none, none, none]) rfl rfl ?_
                            refine gLT9 (pc := 1051) (lv := fun (s45 : Int32 × gST) => [some (.inr (.inr (some (.inr 5)))), some (.inl v41.1), some (.inl i), some (.inr (.inr (some (.inr 0)))), none, some (.inr (.inr (gTop (gAI s.2 1 8)))), some (.inr (.inr y7.1)), some (.inr (.inr (gTop v9.2.2))), some (.inl s10.2.1), some (.inl s10.2.2.1), some (.inr (.inr y27.1)), none, none, none, none, none, some (.inl s45.1), none, none, none, none, none, none, none, none]) (s := fun (s45 : Int32 × gST) => (s45.2.1, s45.2.2)) (fun s45 => ?_) ((8 : Int32), (v41.2.2.1, v41.2.2.2))
                            refine gST9 rfl rfl ?_
                            refine gBT9 rfl rfl ?_ ?_
                            · refine gST9 rfl rfl ?_
                              refine gST9 rfl rfl ?_
                              refine gST9 rfl rfl ?_
                              refine gOT9 rfl rfl (fun D46 => ?_)
                              refine gST9 (lv' := [some (.inr (.inr (some (.inr 5)))), some (.inl v41.1), some (.inl i), some (.inr (.inr (some (.inr 0)))), none, some (.inr (.inr (gTop (gAI s.2 1 8)))), some (.inr (.inr y7.1)), some (.inr (.inr (gTop v9.2.2))), some (.inl (s10.2.1 + (1 : Int32))), some (.inl s10.2.2.1), some (.inr (.inr y27.1)), none, none, none, none, none, some (.inl s45.1), none, none, none, none, none, none, none, none]) rfl rfl ?_
                              refine gMkT9 [true, true, true, true, true, true, true, true, true, true, false, true, true, true, true, true, false, true, true, true, true, true, true, true, true] (lv' := [some (.inr (.inr (some (.inr 5)))), some (.inl v41.1), some (.inl i), some (.inr (.inr (some (.inr 0)))), none, some (.inr (.inr (gTop (gAI s.2 1 8)))), some (.inr (.inr y7.1)), some (.inr (.inr (gTop v9.2.2))), some (.inl (s10.2.1 + (1 : Int32))), some (.inl s10.2.2.1), none, none, none, none, none, none, none, none, none, none, none, none, none, none, none]) rfl rfl ?_
                              refine gNT9 ?_
                              have h3 := hk42 ((s10.2.1 + (1 : Int32)), (s45.2.1, D46))
                              exact h3
                            · refine gST9 rfl rfl ?_
                              refine gST9 rfl rfl ?_
                              refine gST9 rfl rfl ?_
                              refine gST9 rfl rfl ?_
                              refine gST9 rfl rfl ?_
                              refine gST9 rfl rfl ?_
                              refine gOT9 rfl rfl (fun r47 => ?_)
                              refine gOT9 rfl rfl (fun D48 => ?_)
                              refine gST9 (lv' := [some (.inr (.inr (some (.inr 5)))), some (.inl v41.1), some (.inl i), some (.inr (.inr (some (.inr 0)))), none, some (.inr (.inr (gTop (gAI s.2 1 8)))), some (.inr (.inr y7.1)), some (.inr (.inr (gTop v9.2.2))), some (.inl s10.2.1), some (.inl s10.2.2.1), some (.inr (.inr y27.1)), none, none, none, none, none, some (.inl (s45.1 - (1 : Int32))), none, none, none, none, none, none, none, none]) rfl rfl ?_
                              refine gST9 rfl rfl ?_
                              exact gJT9 (fun h2 => h2)
                      · refine gIfT9 (fun q0 => ?_) (fun q0 => ?_)
                        · rw [q0]
                          refine gST9 rfl rfl ?_
                          refine gST9 rfl rfl ?_
                          refine gST9 rfl rfl ?_
                          refine gOT9 rfl rfl (fun r49 => ?_)
                          refine gOT9 rfl rfl (fun z50 => ?_)
                          refine gST9 rfl rfl ?_
                          refine gST9 rfl rfl ?_
                          refine gCT9 (st' := fun y51 => [.inl y51.1, .inl z50, .inr (.inr (gTop (gAI s.2 1 8)))]) rfl rfl (fun _ hz => rv_recv (ci := 10) (by omega) (rv_X10_below hz)) rfl (ok_X10_below dX hX d (by omega) v36.2.1 y39.2 (gTop (gAI s.2 1 8)) (10 : Int32)) (fun z => rfl) (fun y51 => ?_)
                          refine gJnT9 347 (fun (v53 : Int32) => [some (.inr (.inr (some (.inr 5)))), none, some (.inl i), some (.inr (.inr (some (.inr 0)))), none, some (.inr (.inr (gTop (gAI s.2 1 8)))), some (.inr (.inr y7.1)), some (.inr (.inr (gTop v9.2.2))), some (.inl s10.2.1), some (.inl s10.2.2.1), some (.inr (.inr y27.1)), none, none, none, none, none, none, none, none, none, none, none, none, none, none]) (fun (v53 : Int32) => [.inl v53, .inl z50, .inr (.inr (gTop (gAI s.2 1 8)))]) (fun (v53 : Int32) => (v36.2.1, y51.2)) (fun v53 => ?_) (fun k52 hk52 => ?_)
                          · refine gST9 rfl rfl ?_
                            refine gCT9 (st' := fun y54 => [.inl y54.1]) rfl rfl (fun _ hz => rv_recv (ci := 10) (by omega) (rv_X10_below hz)) rfl (ok_X10_below dX hX d (by omega) v36.2.1 y51.2 (gTop (gAI s.2 1 8)) (z50 + v53)) (fun z => rfl) (fun y54 => ?_)
                            refine gST9 (lv' := [some (.inr (.inr (some (.inr 5)))), none, some (.inl i), some (.inr (.inr (some (.inr 0)))), none, some (.inr (.inr (gTop (gAI s.2 1 8)))), some (.inr (.inr y7.1)), some (.inr (.inr (gTop v9.2.2))), some (.inl s10.2.1), some (.inl s10.2.2.1), some (.inr (.inr y27.1)), none, none, none, none, none, some (.inl y54.1), none, none, none, none, none, none, none, none]) rfl rfl ?_
                            refine gST9 rfl rfl ?_
                            refine gST9 rfl rfl ?_
                            refine gOT9 rfl rfl (fun r55 => ?_)
                            refine gOT9 rfl rfl (fun z56 => ?_)
                            refine gJnT9 379 (fun (v58 : Int32) => [some (.inr (.inr (some (.inr 5)))), none, some (.inl i), some (.inr (.inr (some (.inr 0)))), none, some (.inr (.inr (gTop (gAI s.2 1 8)))), some (.inr (.inr y7.1)), some (.inr (.inr (gTop v9.2.2))), some (.inl s10.2.1), some (.inl s10.2.2.1), some (.inr (.inr y27.1)), none, none, none, none, none, some (.inl y54.1), none, none, none, none, none, none, none, none]) (fun (v58 : Int32) => [.inl v58]) (fun (v58 : Int32) => (v36.2.1, y54.2)) (fun v58 => ?_) (fun k57 hk57 => ?_)
                            · refine gST9 (lv' := [some (.inr (.inr (some (.inr 5)))), none, some (.inl i), some (.inr (.inr (some (.inr 0)))), none, some (.inr (.inr (gTop (gAI s.2 1 8)))), some (.inr (.inr y7.1)), some (.inr (.inr (gTop v9.2.2))), some (.inl s10.2.1), some (.inl s10.2.2.1), some (.inr (.inr y27.1)), some (.inl v58), none, none, none, none, some (.inl y54.1), none, none, none, none, none, none, none, none]) rfl rfl ?_
                              refine gST9 rfl rfl ?_
                              refine gST9 rfl rfl ?_
                              refine gXT9 (n := 2) (st' := fun x59 => [.inl x59.1]) (s' := fun x59 => (x59.2, (gBm y54.2 2))) rfl rfl rfl rfl rfl rfl (ok_L_openTour dX (by omega) v36.2.1 y54.1) (fun z => rfl) (fun z => rfl) (fun x59 => ?_)
                              refine gST9 rfl rfl ?_
                              refine gST9 rfl rfl ?_
                              refine gOT9 rfl rfl (fun r60 => ?_)
                              refine gOT9 rfl rfl (fun z61 => ?_)
                              refine gJnT9 419 (fun (v63 : Int32) => [some (.inr (.inr (some (.inr 5)))), none, some (.inl i), some (.inr (.inr (some (.inr 0)))), none, some (.inr (.inr (gTop (gAI s.2 1 8)))), some (.inr (.inr y7.1)), some (.inr (.inr (gTop v9.2.2))), some (.inl s10.2.1), some (.inl s10.2.2.1), some (.inr (.inr y27.1)), some (.inl v58), none, none, none, none, some (.inl y54.1), none, none, none, none, none, none, none, none]) (fun (v63 : Int32) => [.inl v63, .inl x59.1]) (fun (v63 : Int32) => (x59.2, (gBm y54.2 2))) (fun v63 => ?_) (fun k62 hk62 => ?_)
                              · refine gJnT9 427 (fun (v65 : Int32) => [some (.inr (.inr (some (.inr 5)))), none, some (.inl i), some (.inr (.inr (some (.inr 0)))), none, some (.inr (.inr (gTop (gAI s.2 1 8)))), some (.inr (.inr y7.1)), some (.inr (.inr (gTop v9.2.2))), some (.inl s10.2.1), some (.inl s10.2.2.1), some (.inr (.inr y27.1)), some (.inl v58), none, none, none, none, some (.inl y54.1), none, none, none, none, none, none, none, none]) (fun (v65 : Int32) => [.inl v65]) (fun (v65 : Int32) => (x59.2, (gBm y54.2 2))) (fun v65 => ?_) (fun k64 hk64 => ?_)
                                · refine gST9 (lv' := [some (.inr (.inr (some (.inr 5)))), some (.inl v65), some (.inl i), some (.inr (.inr (some (.inr 0)))), none, some (.inr (.inr (gTop (gAI s.2 1 8)))), some (.inr (.inr y7.1)), some (.inr (.inr (gTop v9.2.2))), some (.inl s10.2.1), some (.inl s10.2.2.1), some (.inr (.inr y27.1)), some (.inl v58), none, none, none, none, some (.inl y54.1), none, none, none, none, none, none, none, none]) rfl rfl ?_
                                  refine gST9 rfl rfl ?_
                                  refine gBT9 rfl rfl ?_ ?_
                                  · refine gST9 rfl rfl ?_
                                    refine gST9 rfl rfl ?_
                                    refine gOT9 rfl rfl (fun r66 => ?_)
                                    refine gST9 rfl rfl ?_
                                    refine gOT9 rfl rfl (fun r67 => ?_)
                                    refine gOT9 rfl rfl (fun z68 => ?_)
                                    refine gST9 rfl rfl ?_
                                    refine gOT9 rfl rfl (fun r69 => ?_)
                                    refine gST9 rfl rfl ?_
                                    refine gOT9 rfl rfl (fun z70 => ?_)
                                    refine gCT9 (st' := fun y71 => [.inr (.inr y71.1), .inr (.inr y7.1)]) rfl rfl (fun _ _ => rfl) rfl (ok_L_inserted dX hX d (by omega) x59.2 (gBm y54.2 2) r66 z68 z70) (fun z => rfl) (fun y71 => ?_)
                                    refine gOT9 rfl rfl (fun D72 => ?_)
                                    refine gST9 rfl rfl ?_
                                    refine gST9 rfl rfl ?_
                                    refine gOT9 rfl rfl (fun r73 => ?_)
                                    refine gST9 rfl rfl ?_
                                    refine gST9 (s' := (x59.2, (gAI D72 1 0))) rfl rfl ?_
                                    refine gCT9 (st' := fun y74 => [.inr (.inr y74.1), .inr (.inr y7.1)]) rfl rfl (fun _ _ => rfl) rfl (ok_L_with dX hX d (by omega) x59.2 (gAI D72 1 0) r73 (gTop D72)) (fun z => rfl) (fun y74 => ?_)
                                    refine gOT9 rfl rfl (fun D75 => ?_)
                                    refine gST9 rfl rfl ?_
                                    refine gMkT9 [true, true, true, true, true, true, true, true, true, true, true, true, true, true, true, true, false, true, true, true, true, true, true, true, true] (lv' := [some (.inr (.inr (some (.inr 5)))), some (.inl v65), some (.inl i), some (.inr (.inr (some (.inr 0)))), none, some (.inr (.inr (gTop (gAI s.2 1 8)))), some (.inr (.inr y7.1)), some (.inr (.inr (gTop v9.2.2))), some (.inl s10.2.1), some (.inl s10.2.2.1), some (.inr (.inr y27.1)), some (.inl v58), none, none, none, none, none, none, none, none, none, none, none, none, none]) rfl rfl ?_
                                    have h3 := hk40 (v65, v58, (x59.2, D75))
                                    exact h3
                                  · refine gST9 rfl rfl ?_
                                    refine gMkT9 [true, true, true, true, true, true, true, true, true, true, true, true, true, true, true, true, false, true, true, true, true, true, true, true, true] (lv' := [some (.inr (.inr (some (.inr 5)))), some (.inl v65), some (.inl i), some (.inr (.inr (some (.inr 0)))), none, some (.inr (.inr (gTop (gAI s.2 1 8)))), some (.inr (.inr y7.1)), some (.inr (.inr (gTop v9.2.2))), some (.inl s10.2.1), some (.inl s10.2.2.1), some (.inr (.inr y27.1)), some (.inl v58), none, none, none, none, none, none, none, none, none, none, none, none, none]) rfl rfl ?_
                                    have h3 := hk40 (v65, v58, (x59.2, (gBm y54.2 2)))
                                    exact h3
                                · refine gBT9 rfl rfl ?_ ?_
                                  · refine gST9 rfl rfl ?_
                                    have h3 := hk64 ((0 : Int32))
                                    exact h3
                                  · refine gST9 rfl rfl ?_
                                    refine gST9 rfl rfl ?_
                                    have h3 := hk64 ((1 : Int32))
                                    exact h3
                              · refine gBT9 rfl rfl ?_ ?_
                                · refine gST9 rfl rfl ?_
                                  refine gBT9 rfl rfl ?_ ?_
                                  · refine gST9 rfl rfl ?_
                                    have h3 := hk62 ((-2000000099 : Int32))
                                    exact h3
                                  · refine gST9 rfl rfl ?_
                                    refine gOT9 rfl rfl (fun r76 => ?_)
                                    refine gOT9 rfl rfl (fun z77 => ?_)
                                    refine gST9 rfl rfl ?_
                                    have h3 := hk62 (z77)
                                    exact h3
                                · refine gST9 rfl rfl ?_
                                  refine gST9 rfl rfl ?_
                                  have h3 := hk62 ((-2000000097 : Int32))
                                  exact h3
                            · refine gBT9 rfl rfl ?_ ?_
                              · refine gST9 rfl rfl ?_
                                have h3 := hk57 ((0 : Int32))
                                exact h3
                              · refine gST9 rfl rfl ?_
                                refine gOT9 rfl rfl (fun r78 => ?_)
                                refine gOT9 rfl rfl (fun z79 => ?_)
                                refine gST9 rfl rfl ?_
                                refine gBT9 rfl rfl ?_ ?_
                                · refine gST9 rfl rfl ?_
                                  have h3 := hk57 ((0 : Int32))
                                  exact h3
                                · refine gST9 rfl rfl ?_
                                  refine gST9 rfl rfl ?_
                                  have h3 := hk57 ((1 : Int32))
                                  exact h3
                          · refine gBT9 rfl rfl ?_ ?_
                            · refine gST9 rfl rfl ?_
                              refine gMkT9 [true, false, true, true, true, true, true, true, true, true, true, true, false, false, false, false, true, true, true, true, true, true, true, true, true] (lv' := [some (.inr (.inr (some (.inr 5)))), none, some (.inl i), some (.inr (.inr (some (.inr 0)))), none, some (.inr (.inr (gTop (gAI s.2 1 8)))), some (.inr (.inr y7.1)), some (.inr (.inr (gTop v9.2.2))), some (.inl s10.2.1), some (.inl s10.2.2.1), some (.inr (.inr y27.1)), none, none, none, none, none, none, none, none, none, none, none, none, none, none]) rfl rfl ?_
                              have h3 := hk52 ((0 : Int32))
                              exact h3
                            · refine gST9 rfl rfl ?_
                              refine gST9 rfl rfl ?_
                              refine gMkT9 [true, false, true, true, true, true, true, true, true, true, true, true, false, false, false, false, true, true, true, true, true, true, true, true, true] (lv' := [some (.inr (.inr (some (.inr 5)))), none, some (.inl i), some (.inr (.inr (some (.inr 0)))), none, some (.inr (.inr (gTop (gAI s.2 1 8)))), some (.inr (.inr y7.1)), some (.inr (.inr (gTop v9.2.2))), some (.inl s10.2.1), some (.inl s10.2.2.1), some (.inr (.inr y27.1)), none, none, none, none, none, none, none, none, none, none, none, none, none, none]) rfl rfl ?_
                              have h3 := hk52 ((1 : Int32))
                              exact h3
                        refine gIfT9 (fun q1 => ?_) (fun q1 => ?_)
                        · rw [q1]
                          refine gST9 rfl rfl ?_
                          refine gST9 rfl rfl ?_
                          refine gST9 rfl rfl ?_
                          refine gOT9 rfl rfl (fun r80 => ?_)
                          refine gOT9 rfl rfl (fun z81 => ?_)
                          refine gST9 rfl rfl ?_
                          refine gST9 rfl rfl ?_
                          refine gCT9 (st' := fun y82 => [.inl y82.1, .inl z81, .inr (.inr (gTop (gAI s.2 1 8)))]) rfl rfl (fun _ hz => rv_recv (ci := 10) (by omega) (rv_X10_below hz)) rfl (ok_X10_below dX hX d (by omega) v36.2.1 y39.2 (gTop (gAI s.2 1 8)) (10 : Int32)) (fun z => rfl) (fun y82 => ?_)
                          refine gJnT9 347 (fun (v84 : Int32) => [some (.inr (.inr (some (.inr 5)))), none, some (.inl i), some (.inr (.inr (some (.inr 0)))), none, some (.inr (.inr (gTop (gAI s.2 1 8)))), some (.inr (.inr y7.1)), some (.inr (.inr (gTop v9.2.2))), some (.inl s10.2.1), some (.inl s10.2.2.1), some (.inr (.inr y27.1)), none, none, none, none, none, none, none, none, none, none, none, none, none, none]) (fun (v84 : Int32) => [.inl v84, .inl z81, .inr (.inr (gTop (gAI s.2 1 8)))]) (fun (v84 : Int32) => (v36.2.1, y82.2)) (fun v84 => ?_) (fun k83 hk83 => ?_)
                          · refine gST9 rfl rfl ?_
                            refine gCT9 (st' := fun y85 => [.inl y85.1]) rfl rfl (fun _ hz => rv_recv (ci := 10) (by omega) (rv_X10_below hz)) rfl (ok_X10_below dX hX d (by omega) v36.2.1 y82.2 (gTop (gAI s.2 1 8)) (z81 + v84)) (fun z => rfl) (fun y85 => ?_)
                            refine gST9 (lv' := [some (.inr (.inr (some (.inr 5)))), none, some (.inl i), some (.inr (.inr (some (.inr 0)))), none, some (.inr (.inr (gTop (gAI s.2 1 8)))), some (.inr (.inr y7.1)), some (.inr (.inr (gTop v9.2.2))), some (.inl s10.2.1), some (.inl s10.2.2.1), some (.inr (.inr y27.1)), none, none, none, none, none, some (.inl y85.1), none, none, none, none, none, none, none, none]) rfl rfl ?_
                            refine gST9 rfl rfl ?_
                            refine gST9 rfl rfl ?_
                            refine gOT9 rfl rfl (fun r86 => ?_)
                            refine gOT9 rfl rfl (fun z87 => ?_)
                            refine gJnT9 379 (fun (v89 : Int32) => [some (.inr (.inr (some (.inr 5)))), none, some (.inl i), some (.inr (.inr (some (.inr 0)))), none, some (.inr (.inr (gTop (gAI s.2 1 8)))), some (.inr (.inr y7.1)), some (.inr (.inr (gTop v9.2.2))), some (.inl s10.2.1), some (.inl s10.2.2.1), some (.inr (.inr y27.1)), none, none, none, none, none, some (.inl y85.1), none, none, none, none, none, none, none, none]) (fun (v89 : Int32) => [.inl v89]) (fun (v89 : Int32) => (v36.2.1, y85.2)) (fun v89 => ?_) (fun k88 hk88 => ?_)
                            · refine gST9 (lv' := [some (.inr (.inr (some (.inr 5)))), none, some (.inl i), some (.inr (.inr (some (.inr 0)))), none, some (.inr (.inr (gTop (gAI s.2 1 8)))), some (.inr (.inr y7.1)), some (.inr (.inr (gTop v9.2.2))), some (.inl s10.2.1), some (.inl s10.2.2.1), some (.inr (.inr y27.1)), some (.inl v89), none, none, none, none, some (.inl y85.1), none, none, none, none, none, none, none, none]) rfl rfl ?_
                              refine gST9 rfl rfl ?_
                              refine gST9 rfl rfl ?_
                              refine gXT9 (n := 2) (st' := fun x90 => [.inl x90.1]) (s' := fun x90 => (x90.2, (gBm y85.2 2))) rfl rfl rfl rfl rfl rfl (ok_L_openTour dX (by omega) v36.2.1 y85.1) (fun z => rfl) (fun z => rfl) (fun x90 => ?_)
                              refine gST9 rfl rfl ?_
                              refine gST9 rfl rfl ?_
                              refine gOT9 rfl rfl (fun r91 => ?_)
                              refine gOT9 rfl rfl (fun z92 => ?_)
                              refine gJnT9 419 (fun (v94 : Int32) => [some (.inr (.inr (some (.inr 5)))), none, some (.inl i), some (.inr (.inr (some (.inr 0)))), none, some (.inr (.inr (gTop (gAI s.2 1 8)))), some (.inr (.inr y7.1)), some (.inr (.inr (gTop v9.2.2))), some (.inl s10.2.1), some (.inl s10.2.2.1), some (.inr (.inr y27.1)), some (.inl v89), none, none, none, none, some (.inl y85.1), none, none, none, none, none, none, none, none]) (fun (v94 : Int32) => [.inl v94, .inl x90.1]) (fun (v94 : Int32) => (x90.2, (gBm y85.2 2))) (fun v94 => ?_) (fun k93 hk93 => ?_)
                              · refine gJnT9 427 (fun (v96 : Int32) => [some (.inr (.inr (some (.inr 5)))), none, some (.inl i), some (.inr (.inr (some (.inr 0)))), none, some (.inr (.inr (gTop (gAI s.2 1 8)))), some (.inr (.inr y7.1)), some (.inr (.inr (gTop v9.2.2))), some (.inl s10.2.1), some (.inl s10.2.2.1), some (.inr (.inr y27.1)), some (.inl v89), none, none, none, none, some (.inl y85.1), none, none, none, none, none, none, none, none]) (fun (v96 : Int32) => [.inl v96]) (fun (v96 : Int32) => (x90.2, (gBm y85.2 2))) (fun v96 => ?_) (fun k95 hk95 => ?_)
                                · refine gST9 (lv' := [some (.inr (.inr (some (.inr 5)))), some (.inl v96), some (.inl i), some (.inr (.inr (some (.inr 0)))), none, some (.inr (.inr (gTop (gAI s.2 1 8)))), some (.inr (.inr y7.1)), some (.inr (.inr (gTop v9.2.2))), some (.inl s10.2.1), some (.inl s10.2.2.1), some (.inr (.inr y27.1)), some (.inl v89), none, none, none, none, some (.inl y85.1), none, none, none, none, none, none, none, none]) rfl rfl ?_
                                  refine gST9 rfl rfl ?_
                                  refine gBT9 rfl rfl ?_ ?_
                                  · refine gST9 rfl rfl ?_
                                    refine gST9 rfl rfl ?_
                                    refine gOT9 rfl rfl (fun r97 => ?_)
                                    refine gST9 rfl rfl ?_
                                    refine gOT9 rfl rfl (fun r98 => ?_)
                                    refine gOT9 rfl rfl (fun z99 => ?_)
                                    refine gST9 rfl rfl ?_
                                    refine gOT9 rfl rfl (fun r100 => ?_)
                                    refine gST9 rfl rfl ?_
                                    refine gOT9 rfl rfl (fun z101 => ?_)
                                    refine gCT9 (st' := fun y102 => [.inr (.inr y102.1), .inr (.inr y7.1)]) rfl rfl (fun _ _ => rfl) rfl (ok_L_inserted dX hX d (by omega) x90.2 (gBm y85.2 2) r97 z99 z101) (fun z => rfl) (fun y102 => ?_)
                                    refine gOT9 rfl rfl (fun D103 => ?_)
                                    refine gST9 rfl rfl ?_
                                    refine gST9 rfl rfl ?_
                                    refine gOT9 rfl rfl (fun r104 => ?_)
                                    refine gST9 rfl rfl ?_
                                    refine gST9 (s' := (x90.2, (gAI D103 1 0))) rfl rfl ?_
                                    refine gCT9 (st' := fun y105 => [.inr (.inr y105.1), .inr (.inr y7.1)]) rfl rfl (fun _ _ => rfl) rfl (ok_L_with dX hX d (by omega) x90.2 (gAI D103 1 0) r104 (gTop D103)) (fun z => rfl) (fun y105 => ?_)
                                    refine gOT9 rfl rfl (fun D106 => ?_)
                                    refine gST9 rfl rfl ?_
                                    refine gMkT9 [true, true, true, true, true, true, true, true, true, true, true, true, true, true, true, true, false, true, true, true, true, true, true, true, true] (lv' := [some (.inr (.inr (some (.inr 5)))), some (.inl v96), some (.inl i), some (.inr (.inr (some (.inr 0)))), none, some (.inr (.inr (gTop (gAI s.2 1 8)))), some (.inr (.inr y7.1)), some (.inr (.inr (gTop v9.2.2))), some (.inl s10.2.1), some (.inl s10.2.2.1), some (.inr (.inr y27.1)), some (.inl v89), none, none, none, none, none, none, none, none, none, none, none, none, none]) rfl rfl ?_
                                    have h3 := hk40 (v96, v89, (x90.2, D106))
                                    exact h3
                                  · refine gST9 rfl rfl ?_
                                    refine gMkT9 [true, true, true, true, true, true, true, true, true, true, true, true, true, true, true, true, false, true, true, true, true, true, true, true, true] (lv' := [some (.inr (.inr (some (.inr 5)))), some (.inl v96), some (.inl i), some (.inr (.inr (some (.inr 0)))), none, some (.inr (.inr (gTop (gAI s.2 1 8)))), some (.inr (.inr y7.1)), some (.inr (.inr (gTop v9.2.2))), some (.inl s10.2.1), some (.inl s10.2.2.1), some (.inr (.inr y27.1)), some (.inl v89), none, none, none, none, none, none, none, none, none, none, none, none, none]) rfl rfl ?_
                                    have h3 := hk40 (v96, v89, (x90.2, (gBm y85.2 2)))
                                    exact h3
                                · refine gBT9 rfl rfl ?_ ?_
                                  · refine gST9 rfl rfl ?_
                                    have h3 := hk95 ((0 : Int32))
                                    exact h3
                                  · refine gST9 rfl rfl ?_
                                    refine gST9 rfl rfl ?_
                                    have h3 := hk95 ((1 : Int32))
                                    exact h3
                              · refine gBT9 rfl rfl ?_ ?_
                                · refine gST9 rfl rfl ?_
                                  refine gBT9 rfl rfl ?_ ?_
                                  · refine gST9 rfl rfl ?_
                                    have h3 := hk93 ((-2000000099 : Int32))
                                    exact h3
                                  · refine gST9 rfl rfl ?_
                                    refine gOT9 rfl rfl (fun r107 => ?_)
                                    refine gOT9 rfl rfl (fun z108 => ?_)
                                    refine gST9 rfl rfl ?_
                                    have h3 := hk93 (z108)
                                    exact h3
                                · refine gST9 rfl rfl ?_
                                  refine gST9 rfl rfl ?_
                                  have h3 := hk93 ((-2000000097 : Int32))
                                  exact h3
                            · refine gBT9 rfl rfl ?_ ?_
                              · refine gST9 rfl rfl ?_
                                have h3 := hk88 ((0 : Int32))
                                exact h3
                              · refine gST9 rfl rfl ?_
                                refine gOT9 rfl rfl (fun r109 => ?_)
                                refine gOT9 rfl rfl (fun z110 => ?_)
                                refine gST9 rfl rfl ?_
                                refine gBT9 rfl rfl ?_ ?_
                                · refine gST9 rfl rfl ?_
                                  have h3 := hk88 ((0 : Int32))
                                  exact h3
                                · refine gST9 rfl rfl ?_
                                  refine gST9 rfl rfl ?_
                                  have h3 := hk88 ((1 : Int32))
                                  exact h3
                          · refine gBT9 rfl rfl ?_ ?_
                            · refine gST9 rfl rfl ?_
                              refine gMkT9 [true, false, true, true, true, true, true, true, true, true, true, true, false, false, false, false, true, true, true, true, true, true, true, true, true] (lv' := [some (.inr (.inr (some (.inr 5)))), none, some (.inl i), some (.inr (.inr (some (.inr 0)))), none, some (.inr (.inr (gTop (gAI s.2 1 8)))), some (.inr (.inr y7.1)), some (.inr (.inr (gTop v9.2.2))), some (.inl s10.2.1), some (.inl s10.2.2.1), some (.inr (.inr y27.1)), none, none, none, none, none, none, none, none, none, none, none, none, none, none]) rfl rfl ?_
                              have h3 := hk83 ((0 : Int32))
                              exact h3
                            · refine gST9 rfl rfl ?_
                              refine gST9 rfl rfl ?_
                              refine gMkT9 [true, false, true, true, true, true, true, true, true, true, true, true, false, false, false, false, true, true, true, true, true, true, true, true, true] (lv' := [some (.inr (.inr (some (.inr 5)))), none, some (.inl i), some (.inr (.inr (some (.inr 0)))), none, some (.inr (.inr (gTop (gAI s.2 1 8)))), some (.inr (.inr y7.1)), some (.inr (.inr (gTop v9.2.2))), some (.inl s10.2.1), some (.inl s10.2.2.1), some (.inr (.inr y27.1)), none, none, none, none, none, none, none, none, none, none, none, none, none, none]) rfl rfl ?_
                              have h3 := hk83 ((1 : Int32))
                              exact h3
                        refine gIfT9 (fun q2 => ?_) (fun q2 => ?_)
                        · rw [q2]
                          refine gST9 rfl rfl ?_
                          refine gST9 rfl rfl ?_
                          refine gJnT9 508 (fun (v112 : gRF × gST) => [some (.inr (.inr (some (.inr 5)))), none, some (.inl i), some (.inr (.inr (some (.inr 0)))), none, some (.inr (.inr (gTop (gAI s.2 1 8)))), some (.inr (.inr y7.1)), some (.inr (.inr (gTop v9.2.2))), some (.inl s10.2.1), some (.inl s10.2.2.1), some (.inr (.inr y27.1)), none, some (.inl v30.1), none, some (.inr (.inr v36.1)), some (.inl v38), none, none, none, none, none, none, none, none, none]) (fun (v112 : gRF × gST) => [.inr (.inr v112.1)]) (fun (v112 : gRF × gST) => (v112.2.1, v112.2.2)) (fun v112 => ?_) (fun k111 hk111 => ?_)
                          · refine gST9 (lv' := [some (.inr (.inr (some (.inr 5)))), none, some (.inl i), some (.inr (.inr (some (.inr 0)))), none, some (.inr (.inr (gTop (gAI s.2 1 8)))), some (.inr (.inr y7.1)), some (.inr (.inr (gTop v9.2.2))), some (.inl s10.2.1), some (.inl s10.2.2.1), some (.inr (.inr y27.1)), none, some (.inl v30.1), none, some (.inr (.inr v36.1)), some (.inl v38), none, some (.inr (.inr v112.1)), none, none, none, none, none, none, none]) rfl rfl ?_
                            refine gST9 rfl rfl ?_
                            refine gJnT9 543 (fun (v114 : Int32 × gST) => [some (.inr (.inr (some (.inr 5)))), none, some (.inl i), some (.inr (.inr (some (.inr 0)))), none, some (.inr (.inr (gTop (gAI s.2 1 8)))), some (.inr (.inr y7.1)), some (.inr (.inr (gTop v9.2.2))), some (.inl s10.2.1), some (.inl s10.2.2.1), some (.inr (.inr y27.1)), none, some (.inl v30.1), none, some (.inr (.inr v36.1)), some (.inl v38), none, some (.inr (.inr v112.1)), none, none, none, none, none, none, none]) (fun (v114 : Int32 × gST) => [.inl v114.1]) (fun (v114 : Int32 × gST) => (v114.2.1, v114.2.2)) (fun v114 => ?_) (fun k113 hk113 => ?_)
                            · refine gST9 (lv' := [some (.inr (.inr (some (.inr 5)))), none, some (.inl i), some (.inr (.inr (some (.inr 0)))), none, some (.inr (.inr (gTop (gAI s.2 1 8)))), some (.inr (.inr y7.1)), some (.inr (.inr (gTop v9.2.2))), some (.inl s10.2.1), some (.inl s10.2.2.1), some (.inr (.inr y27.1)), some (.inl v114.1), some (.inl v30.1), none, some (.inr (.inr v36.1)), some (.inl v38), none, some (.inr (.inr v112.1)), none, none, none, none, none, none, none]) rfl rfl ?_
                              refine gST9 rfl rfl ?_
                              refine gJnT9 573 (fun (v116 : Int32 × gST) => [some (.inr (.inr (some (.inr 5)))), none, some (.inl i), some (.inr (.inr (some (.inr 0)))), none, some (.inr (.inr (gTop (gAI s.2 1 8)))), some (.inr (.inr y7.1)), some (.inr (.inr (gTop v9.2.2))), some (.inl s10.2.1), some (.inl s10.2.2.1), some (.inr (.inr y27.1)), some (.inl v114.1), some (.inl v30.1), none, none, some (.inl v116.1), none, none, none, none, none, none, none, none, none]) (fun (v116 : Int32 × gST) => []) (fun (v116 : Int32 × gST) => (v116.2.1, v116.2.2)) (fun v116 => ?_) (fun k115 hk115 => ?_)
                              · refine gST9 rfl rfl ?_
                                refine gST9 rfl rfl ?_
                                refine gXT9 (n := 3) (st' := fun x117 => [.inl x117.1]) (s' := fun x117 => (x117.2, (gBm v116.2.2 3))) rfl rfl rfl rfl rfl rfl (ok_L_drop dX (by omega) v116.2.1 v30.1) (fun z => rfl) (fun z => rfl) (fun x117 => ?_)
                                refine gST9 rfl rfl ?_
                                refine gBT9 rfl rfl ?_ ?_
                                · refine gST9 rfl rfl ?_
                                  refine gST9 (lv' := [some (.inr (.inr (some (.inr 5)))), some (.inl (0 : Int32)), some (.inl i), some (.inr (.inr (some (.inr 0)))), none, some (.inr (.inr (gTop (gAI s.2 1 8)))), some (.inr (.inr y7.1)), some (.inr (.inr (gTop v9.2.2))), some (.inl s10.2.1), some (.inl s10.2.2.1), some (.inr (.inr y27.1)), some (.inl v114.1), some (.inl v30.1), none, none, some (.inl v116.1), none, none, none, none, none, none, none, none, none]) rfl rfl ?_
                                  refine gST9 rfl rfl ?_
                                  refine gMkT9 [true, true, true, true, true, true, true, true, true, true, true, true, false, true, true, false, true, true, true, true, true, true, true, true, true] (lv' := [some (.inr (.inr (some (.inr 5)))), some (.inl (0 : Int32)), some (.inl i), some (.inr (.inr (some (.inr 0)))), none, some (.inr (.inr (gTop (gAI s.2 1 8)))), some (.inr (.inr y7.1)), some (.inr (.inr (gTop v9.2.2))), some (.inl s10.2.1), some (.inl s10.2.2.1), some (.inr (.inr y27.1)), some (.inl v114.1), none, none, none, none, none, none, none, none, none, none, none, none, none]) rfl rfl ?_
                                  have h3 := hk40 ((0 : Int32), v114.1, (x117.2, (gBm v116.2.2 3)))
                                  exact h3
                                · refine gST9 rfl rfl ?_
                                  refine gST9 rfl rfl ?_
                                  refine gST9 (lv' := [some (.inr (.inr (some (.inr 5)))), some (.inl (1 : Int32)), some (.inl i), some (.inr (.inr (some (.inr 0)))), none, some (.inr (.inr (gTop (gAI s.2 1 8)))), some (.inr (.inr y7.1)), some (.inr (.inr (gTop v9.2.2))), some (.inl s10.2.1), some (.inl s10.2.2.1), some (.inr (.inr y27.1)), some (.inl v114.1), some (.inl v30.1), none, none, some (.inl v116.1), none, none, none, none, none, none, none, none, none]) rfl rfl ?_
                                  refine gST9 rfl rfl ?_
                                  refine gMkT9 [true, true, true, true, true, true, true, true, true, true, true, true, false, true, true, false, true, true, true, true, true, true, true, true, true] (lv' := [some (.inr (.inr (some (.inr 5)))), some (.inl (1 : Int32)), some (.inl i), some (.inr (.inr (some (.inr 0)))), none, some (.inr (.inr (gTop (gAI s.2 1 8)))), some (.inr (.inr y7.1)), some (.inr (.inr (gTop v9.2.2))), some (.inl s10.2.1), some (.inl s10.2.2.1), some (.inr (.inr y27.1)), some (.inl v114.1), none, none, none, none, none, none, none, none, none, none, none, none, none]) rfl rfl ?_
                                  have h3 := hk40 ((1 : Int32), v114.1, (x117.2, (gBm v116.2.2 3)))
                                  exact h3
                              · refine gBT9 rfl rfl ?_ ?_
                                · refine gMkT9 [true, true, true, true, true, true, true, true, true, true, true, true, true, true, false, true, true, false, true, true, true, true, true, true, true] (lv' := [some (.inr (.inr (some (.inr 5)))), none, some (.inl i), some (.inr (.inr (some (.inr 0)))), none, some (.inr (.inr (gTop (gAI s.2 1 8)))), some (.inr (.inr y7.1)), some (.inr (.inr (gTop v9.2.2))), some (.inl s10.2.1), some (.inl s10.2.2.1), some (.inr (.inr y27.1)), some (.inl v114.1), some (.inl v30.1), none, none, some (.inl v38), none, none, none, none, none, none, none, none, none]) rfl rfl ?_
                                  have h3 := hk115 (v38, (v114.2.1, v114.2.2))
                                  exact h3
                                · refine gST9 rfl rfl ?_
                                  refine gOT9 rfl rfl (fun r118 => ?_)
                                  refine gST9 rfl rfl ?_
                                  refine gST9 rfl rfl ?_
                                  refine gOT9 rfl rfl (fun z119 => ?_)
                                  refine gST9 rfl rfl ?_
                                  refine gOT9 rfl rfl (fun D120 => ?_)
                                  refine gST9 rfl rfl ?_
                                  refine gST9 rfl rfl ?_
                                  refine gST9 rfl rfl ?_
                                  refine gOT9 rfl rfl (fun z121 => ?_)
                                  refine gCT9 (st' := fun y122 => [.inl y122.1]) rfl rfl (fun _ hz => rv_recv (ci := 8) (by omega) (rv_X8_price_ hz)) rfl (ok_X8_price_ dX hX d (by omega) v114.2.1 D120 y7.1 z121) (fun z => rfl) (fun y122 => ?_)
                                  refine gST9 (lv' := [some (.inr (.inr (some (.inr 5)))), none, some (.inl i), some (.inr (.inr (some (.inr 0)))), none, some (.inr (.inr (gTop (gAI s.2 1 8)))), some (.inr (.inr y7.1)), some (.inr (.inr (gTop v9.2.2))), some (.inl s10.2.1), some (.inl s10.2.2.1), some (.inr (.inr y27.1)), some (.inl v114.1), some (.inl v30.1), none, some (.inr (.inr v36.1)), some (.inl y122.1), none, some (.inr (.inr v112.1)), none, none, none, none, none, none, none]) rfl rfl ?_
                                  refine gMkT9 [true, true, true, true, true, true, true, true, true, true, true, true, true, true, false, true, true, false, true, true, true, true, true, true, true] (lv' := [some (.inr (.inr (some (.inr 5)))), none, some (.inl i), some (.inr (.inr (some (.inr 0)))), none, some (.inr (.inr (gTop (gAI s.2 1 8)))), some (.inr (.inr y7.1)), some (.inr (.inr (gTop v9.2.2))), some (.inl s10.2.1), some (.inl s10.2.2.1), some (.inr (.inr y27.1)), some (.inl v114.1), some (.inl v30.1), none, none, some (.inl y122.1), none, none, none, none, none, none, none, none, none]) rfl rfl ?_
                                  have h3 := hk115 (y122.1, (v114.2.1, y122.2))
                                  exact h3
                            · refine gBT9 rfl rfl ?_ ?_
                              · refine gST9 rfl rfl ?_
                                have h3 := hk113 ((0 : Int32), (v112.2.1, v112.2.2))
                                exact h3
                              · refine gST9 rfl rfl ?_
                                refine gST9 rfl rfl ?_
                                refine gOT9 rfl rfl (fun r123 => ?_)
                                refine gST9 rfl rfl ?_
                                refine gST9 rfl rfl ?_
                                refine gOT9 rfl rfl (fun z124 => ?_)
                                refine gOT9 rfl rfl (fun z125 => ?_)
                                refine gST9 rfl rfl ?_
                                refine gCT9 (st' := fun y126 => [.inl y126.1]) rfl rfl (fun _ hz => rv_recv (ci := 8) (by omega) (rv_X8_price hz)) rfl (ok_X8_price dX hX d (by omega) v112.2.1 v112.2.2 y7.1 z125 v112.1) (fun z => rfl) (fun y126 => ?_)
                                refine gST9 rfl rfl ?_
                                refine gBT9 rfl rfl ?_ ?_
                                · refine gST9 rfl rfl ?_
                                  have h3 := hk113 ((0 : Int32), (v112.2.1, y126.2))
                                  exact h3
                                · refine gST9 rfl rfl ?_
                                  refine gST9 rfl rfl ?_
                                  have h3 := hk113 ((1 : Int32), (v112.2.1, y126.2))
                                  exact h3
                          · refine gBT9 rfl rfl ?_ ?_
                            · refine gST9 rfl rfl ?_
                              refine gST9 rfl rfl ?_
                              refine gMkT9 [true, false, true, true, true, true, true, true, true, true, true, true, true, false, true, true, true, true, true, true, true, true, true, true, true] (lv' := [some (.inr (.inr (some (.inr 5)))), none, some (.inl i), some (.inr (.inr (some (.inr 0)))), none, some (.inr (.inr (gTop (gAI s.2 1 8)))), some (.inr (.inr y7.1)), some (.inr (.inr (gTop v9.2.2))), some (.inl s10.2.1), some (.inl s10.2.2.1), some (.inr (.inr y27.1)), none, some (.inl v30.1), none, some (.inr (.inr v36.1)), some (.inl v38), none, none, none, none, none, none, none, none, none]) rfl rfl ?_
                              have h3 := hk111 (none, (v36.2.1, y39.2))
                              exact h3
                            · refine gST9 rfl rfl ?_
                              refine gOT9 rfl rfl (fun r127 => ?_)
                              refine gST9 rfl rfl ?_
                              refine gST9 rfl rfl ?_
                              refine gOT9 rfl rfl (fun z128 => ?_)
                              refine gOT9 rfl rfl (fun r129 => ?_)
                              refine gST9 rfl rfl ?_
                              refine gST9 rfl rfl ?_
                              refine gOT9 rfl rfl (fun z130 => ?_)
                              refine gCT9 (st' := fun y131 => [.inr (.inr y131.1)]) rfl rfl (fun _ _ => rfl) rfl (ok_L_without dX hX d (by omega) v36.2.1 y39.2 r129 z130) (fun z => rfl) (fun y131 => ?_)
                              refine gMkT9 [true, false, true, true, true, true, true, true, true, true, true, true, true, false, true, true, true, true, true, true, true, true, true, true, true] (lv' := [some (.inr (.inr (some (.inr 5)))), none, some (.inl i), some (.inr (.inr (some (.inr 0)))), none, some (.inr (.inr (gTop (gAI s.2 1 8)))), some (.inr (.inr y7.1)), some (.inr (.inr (gTop v9.2.2))), some (.inl s10.2.1), some (.inl s10.2.2.1), some (.inr (.inr y27.1)), none, some (.inl v30.1), none, some (.inr (.inr v36.1)), some (.inl v38), none, none, none, none, none, none, none, none, none]) rfl rfl ?_
                              have h3 := hk111 (y131.1, (v36.2.1, y131.2))
                              exact h3
                        refine gIfT9 (fun q3 => ?_) (fun q3 => ?_)
                        · rw [q3]
                          refine gST9 rfl rfl ?_
                          refine gST9 rfl rfl ?_
                          refine gJnT9 618 (fun (v133 : gRF × gST) => [some (.inr (.inr (some (.inr 5)))), none, some (.inl i), some (.inr (.inr (some (.inr 0)))), none, some (.inr (.inr (gTop (gAI s.2 1 8)))), some (.inr (.inr y7.1)), some (.inr (.inr (gTop v9.2.2))), some (.inl s10.2.1), some (.inl s10.2.2.1), some (.inr (.inr y27.1)), none, some (.inl v30.1), none, some (.inr (.inr v36.1)), some (.inl v38), none, none, none, none, none, none, none, none, none]) (fun (v133 : gRF × gST) => [.inr (.inr v133.1)]) (fun (v133 : gRF × gST) => (v133.2.1, v133.2.2)) (fun v133 => ?_) (fun k132 hk132 => ?_)
                          · refine gST9 (lv' := [some (.inr (.inr (some (.inr 5)))), none, some (.inl i), some (.inr (.inr (some (.inr 0)))), none, some (.inr (.inr (gTop (gAI s.2 1 8)))), some (.inr (.inr y7.1)), some (.inr (.inr (gTop v9.2.2))), some (.inl s10.2.1), some (.inl s10.2.2.1), some (.inr (.inr y27.1)), none, some (.inl v30.1), none, some (.inr (.inr v36.1)), some (.inl v38), none, none, some (.inr (.inr v133.1)), none, none, none, none, none, none]) rfl rfl ?_
                            refine gST9 rfl rfl ?_
                            refine gJnT9 636 (fun (v135 : gST) => [some (.inr (.inr (some (.inr 5)))), none, some (.inl i), some (.inr (.inr (some (.inr 0)))), none, some (.inr (.inr (gTop (gAI s.2 1 8)))), some (.inr (.inr y7.1)), some (.inr (.inr (gTop v9.2.2))), some (.inl s10.2.1), some (.inl s10.2.2.1), some (.inr (.inr y27.1)), none, some (.inl v30.1), none, some (.inr (.inr v36.1)), some (.inl v38), none, none, some (.inr (.inr v133.1)), none, none, none, none, none, none]) (fun (v135 : gST) => []) (fun (v135 : gST) => (v135.1, v135.2)) (fun v135 => ?_) (fun k134 hk134 => ?_)
                            · refine gST9 rfl rfl ?_
                              refine gJnT9 669 (fun (v137 : Int32 × gST) => [some (.inr (.inr (some (.inr 5)))), none, some (.inl i), some (.inr (.inr (some (.inr 0)))), none, some (.inr (.inr (gTop (gAI s.2 1 8)))), some (.inr (.inr y7.1)), some (.inr (.inr (gTop v9.2.2))), some (.inl s10.2.1), some (.inl s10.2.2.1), some (.inr (.inr y27.1)), none, some (.inl v30.1), none, some (.inr (.inr v36.1)), some (.inl v38), none, none, some (.inr (.inr v133.1)), none, none, none, none, none, none]) (fun (v137 : Int32 × gST) => [.inl v137.1]) (fun (v137 : Int32 × gST) => (v137.2.1, v137.2.2)) (fun v137 => ?_) (fun k136 hk136 => ?_)
                              · refine gST9 (lv' := [some (.inr (.inr (some (.inr 5)))), none, some (.inl i), some (.inr (.inr (some (.inr 0)))), none, some (.inr (.inr (gTop (gAI s.2 1 8)))), some (.inr (.inr y7.1)), some (.inr (.inr (gTop v9.2.2))), some (.inl s10.2.1), some (.inl s10.2.2.1), some (.inr (.inr y27.1)), some (.inl v137.1), some (.inl v30.1), none, some (.inr (.inr v36.1)), some (.inl v38), none, none, some (.inr (.inr v133.1)), none, none, none, none, none, none]) rfl rfl ?_
                                refine gST9 rfl rfl ?_
                                refine gJnT9 699 (fun (v139 : Int32 × gST) => [some (.inr (.inr (some (.inr 5)))), none, some (.inl i), some (.inr (.inr (some (.inr 0)))), none, some (.inr (.inr (gTop (gAI s.2 1 8)))), some (.inr (.inr y7.1)), some (.inr (.inr (gTop v9.2.2))), some (.inl s10.2.1), some (.inl s10.2.2.1), some (.inr (.inr y27.1)), some (.inl v137.1), some (.inl v30.1), none, none, some (.inl v139.1), none, none, none, none, none, none, none, none, none]) (fun (v139 : Int32 × gST) => []) (fun (v139 : Int32 × gST) => (v139.2.1, v139.2.2)) (fun v139 => ?_) (fun k138 hk138 => ?_)
                                · refine gST9 rfl rfl ?_
                                  refine gST9 rfl rfl ?_
                                  refine gXT9 (n := 3) (st' := fun x140 => [.inl x140.1]) (s' := fun x140 => (x140.2, (gBm v139.2.2 3))) rfl rfl rfl rfl rfl rfl (ok_L_flip dX (by omega) v139.2.1 v30.1) (fun z => rfl) (fun z => rfl) (fun x140 => ?_)
                                  refine gST9 rfl rfl ?_
                                  refine gBT9 rfl rfl ?_ ?_
                                  · refine gST9 rfl rfl ?_
                                    refine gST9 (lv' := [some (.inr (.inr (some (.inr 5)))), some (.inl (0 : Int32)), some (.inl i), some (.inr (.inr (some (.inr 0)))), none, some (.inr (.inr (gTop (gAI s.2 1 8)))), some (.inr (.inr y7.1)), some (.inr (.inr (gTop v9.2.2))), some (.inl s10.2.1), some (.inl s10.2.2.1), some (.inr (.inr y27.1)), some (.inl v137.1), some (.inl v30.1), none, none, some (.inl v139.1), none, none, none, none, none, none, none, none, none]) rfl rfl ?_
                                    refine gST9 rfl rfl ?_
                                    refine gMkT9 [true, true, true, true, true, true, true, true, true, true, true, true, false, true, true, false, true, true, true, true, true, true, true, true, true] (lv' := [some (.inr (.inr (some (.inr 5)))), some (.inl (0 : Int32)), some (.inl i), some (.inr (.inr (some (.inr 0)))), none, some (.inr (.inr (gTop (gAI s.2 1 8)))), some (.inr (.inr y7.1)), some (.inr (.inr (gTop v9.2.2))), some (.inl s10.2.1), some (.inl s10.2.2.1), some (.inr (.inr y27.1)), some (.inl v137.1), none, none, none, none, none, none, none, none, none, none, none, none, none]) rfl rfl ?_
                                    have h3 := hk40 ((0 : Int32), v137.1, (x140.2, (gBm v139.2.2 3)))
                                    exact h3
                                  · refine gST9 rfl rfl ?_
                                    refine gST9 rfl rfl ?_
                                    refine gST9 (lv' := [some (.inr (.inr (some (.inr 5)))), some (.inl (1 : Int32)), some (.inl i), some (.inr (.inr (some (.inr 0)))), none, some (.inr (.inr (gTop (gAI s.2 1 8)))), some (.inr (.inr y7.1)), some (.inr (.inr (gTop v9.2.2))), some (.inl s10.2.1), some (.inl s10.2.2.1), some (.inr (.inr y27.1)), some (.inl v137.1), some (.inl v30.1), none, none, some (.inl v139.1), none, none, none, none, none, none, none, none, none]) rfl rfl ?_
                                    refine gST9 rfl rfl ?_
                                    refine gMkT9 [true, true, true, true, true, true, true, true, true, true, true, true, false, true, true, false, true, true, true, true, true, true, true, true, true] (lv' := [some (.inr (.inr (some (.inr 5)))), some (.inl (1 : Int32)), some (.inl i), some (.inr (.inr (some (.inr 0)))), none, some (.inr (.inr (gTop (gAI s.2 1 8)))), some (.inr (.inr y7.1)), some (.inr (.inr (gTop v9.2.2))), some (.inl s10.2.1), some (.inl s10.2.2.1), some (.inr (.inr y27.1)), some (.inl v137.1), none, none, none, none, none, none, none, none, none, none, none, none, none]) rfl rfl ?_
                                    have h3 := hk40 ((1 : Int32), v137.1, (x140.2, (gBm v139.2.2 3)))
                                    exact h3
                                · refine gBT9 rfl rfl ?_ ?_
                                  · refine gMkT9 [true, true, true, true, true, true, true, true, true, true, true, true, true, true, false, true, true, true, false, true, true, true, true, true, true] (lv' := [some (.inr (.inr (some (.inr 5)))), none, some (.inl i), some (.inr (.inr (some (.inr 0)))), none, some (.inr (.inr (gTop (gAI s.2 1 8)))), some (.inr (.inr y7.1)), some (.inr (.inr (gTop v9.2.2))), some (.inl s10.2.1), some (.inl s10.2.2.1), some (.inr (.inr y27.1)), some (.inl v137.1), some (.inl v30.1), none, none, some (.inl v38), none, none, none, none, none, none, none, none, none]) rfl rfl ?_
                                    have h3 := hk138 (v38, (v137.2.1, v137.2.2))
                                    exact h3
                                  · refine gST9 rfl rfl ?_
                                    refine gOT9 rfl rfl (fun r141 => ?_)
                                    refine gST9 rfl rfl ?_
                                    refine gST9 rfl rfl ?_
                                    refine gOT9 rfl rfl (fun z142 => ?_)
                                    refine gST9 rfl rfl ?_
                                    refine gOT9 rfl rfl (fun D143 => ?_)
                                    refine gST9 rfl rfl ?_
                                    refine gST9 rfl rfl ?_
                                    refine gST9 rfl rfl ?_
                                    refine gOT9 rfl rfl (fun z144 => ?_)
                                    refine gCT9 (st' := fun y145 => [.inl y145.1]) rfl rfl (fun _ hz => rv_recv (ci := 8) (by omega) (rv_X8_price_ hz)) rfl (ok_X8_price_ dX hX d (by omega) v137.2.1 D143 y7.1 z144) (fun z => rfl) (fun y145 => ?_)
                                    refine gST9 (lv' := [some (.inr (.inr (some (.inr 5)))), none, some (.inl i), some (.inr (.inr (some (.inr 0)))), none, some (.inr (.inr (gTop (gAI s.2 1 8)))), some (.inr (.inr y7.1)), some (.inr (.inr (gTop v9.2.2))), some (.inl s10.2.1), some (.inl s10.2.2.1), some (.inr (.inr y27.1)), some (.inl v137.1), some (.inl v30.1), none, some (.inr (.inr v36.1)), some (.inl y145.1), none, none, some (.inr (.inr v133.1)), none, none, none, none, none, none]) rfl rfl ?_
                                    refine gMkT9 [true, true, true, true, true, true, true, true, true, true, true, true, true, true, false, true, true, true, false, true, true, true, true, true, true] (lv' := [some (.inr (.inr (some (.inr 5)))), none, some (.inl i), some (.inr (.inr (some (.inr 0)))), none, some (.inr (.inr (gTop (gAI s.2 1 8)))), some (.inr (.inr y7.1)), some (.inr (.inr (gTop v9.2.2))), some (.inl s10.2.1), some (.inl s10.2.2.1), some (.inr (.inr y27.1)), some (.inl v137.1), some (.inl v30.1), none, none, some (.inl y145.1), none, none, none, none, none, none, none, none, none]) rfl rfl ?_
                                    have h3 := hk138 (y145.1, (v137.2.1, y145.2))
                                    exact h3
                              · refine gBT9 rfl rfl ?_ ?_
                                · refine gST9 rfl rfl ?_
                                  have h3 := hk136 ((0 : Int32), (v135.1, v135.2))
                                  exact h3
                                · refine gST9 rfl rfl ?_
                                  refine gST9 rfl rfl ?_
                                  refine gOT9 rfl rfl (fun r146 => ?_)
                                  refine gST9 rfl rfl ?_
                                  refine gST9 rfl rfl ?_
                                  refine gOT9 rfl rfl (fun z147 => ?_)
                                  refine gOT9 rfl rfl (fun z148 => ?_)
                                  refine gST9 rfl rfl ?_
                                  refine gCT9 (st' := fun y149 => [.inl y149.1]) rfl rfl (fun _ hz => rv_recv (ci := 8) (by omega) (rv_X8_price hz)) rfl (ok_X8_price dX hX d (by omega) v135.1 v135.2 y7.1 z148 v133.1) (fun z => rfl) (fun y149 => ?_)
                                  refine gST9 rfl rfl ?_
                                  refine gBT9 rfl rfl ?_ ?_
                                  · refine gST9 rfl rfl ?_
                                    have h3 := hk136 ((0 : Int32), (v135.1, y149.2))
                                    exact h3
                                  · refine gST9 rfl rfl ?_
                                    refine gST9 rfl rfl ?_
                                    have h3 := hk136 ((1 : Int32), (v135.1, y149.2))
                                    exact h3
                            · refine gBT9 rfl rfl ?_ ?_
                              · have h3 := hk134 ((v133.2.1, v133.2.2))
                                exact h3
                              · refine gST9 rfl rfl ?_
                                refine gST9 rfl rfl ?_
                                refine gST9 rfl rfl ?_
                                refine gOT9 rfl rfl (fun z150 => ?_)
                                refine gST9 rfl rfl ?_
                                refine gOT9 rfl rfl (fun z151 => ?_)
                                refine gST9 rfl rfl ?_
                                refine gST9 rfl rfl ?_
                                refine gOT9 rfl rfl (fun D152 => ?_)
                                have h3 := hk134 ((v133.2.1, D152))
                                exact h3
                          · refine gBT9 rfl rfl ?_ ?_
                            · refine gST9 rfl rfl ?_
                              refine gST9 rfl rfl ?_
                              refine gMkT9 [true, false, true, true, true, true, true, true, true, true, true, true, true, false, true, true, true, true, true, true, true, true, true, true, true] (lv' := [some (.inr (.inr (some (.inr 5)))), none, some (.inl i), some (.inr (.inr (some (.inr 0)))), none, some (.inr (.inr (gTop (gAI s.2 1 8)))), some (.inr (.inr y7.1)), some (.inr (.inr (gTop v9.2.2))), some (.inl s10.2.1), some (.inl s10.2.2.1), some (.inr (.inr y27.1)), none, some (.inl v30.1), none, some (.inr (.inr v36.1)), some (.inl v38), none, none, none, none, none, none, none, none, none]) rfl rfl ?_
                              have h3 := hk132 (none, (v36.2.1, y39.2))
                              exact h3
                            · refine gST9 rfl rfl ?_
                              refine gOT9 rfl rfl (fun r153 => ?_)
                              refine gST9 rfl rfl ?_
                              refine gST9 rfl rfl ?_
                              refine gOT9 rfl rfl (fun z154 => ?_)
                              refine gOT9 rfl rfl (fun r155 => ?_)
                              refine gOT9 rfl rfl (fun D156 => ?_)
                              refine gOT9 rfl rfl (fun u157 => ?_)
                              refine gMkT9 [true, false, true, true, true, true, true, true, true, true, true, true, true, false, true, true, true, true, true, true, true, true, true, true, true] (lv' := [some (.inr (.inr (some (.inr 5)))), none, some (.inl i), some (.inr (.inr (some (.inr 0)))), none, some (.inr (.inr (gTop (gAI s.2 1 8)))), some (.inr (.inr y7.1)), some (.inr (.inr (gTop v9.2.2))), some (.inl s10.2.1), some (.inl s10.2.2.1), some (.inr (.inr y27.1)), none, some (.inl v30.1), none, some (.inr (.inr v36.1)), some (.inl v38), none, none, none, none, none, none, none, none, none]) rfl rfl ?_
                              have h3 := hk132 ((gTop y39.2), (v36.2.1, D156))
                              exact h3
                        refine gIfT9 (fun q4 => ?_) (fun q4 => ?_)
                        · rw [q4]
                          refine gST9 rfl rfl ?_
                          refine gST9 rfl rfl ?_
                          refine gJnT9 618 (fun (v159 : gRF × gST) => [some (.inr (.inr (some (.inr 5)))), none, some (.inl i), some (.inr (.inr (some (.inr 0)))), none, some (.inr (.inr (gTop (gAI s.2 1 8)))), some (.inr (.inr y7.1)), some (.inr (.inr (gTop v9.2.2))), some (.inl s10.2.1), some (.inl s10.2.2.1), some (.inr (.inr y27.1)), none, some (.inl v30.1), none, some (.inr (.inr v36.1)), some (.inl v38), none, none, none, none, none, none, none, none, none]) (fun (v159 : gRF × gST) => [.inr (.inr v159.1)]) (fun (v159 : gRF × gST) => (v159.2.1, v159.2.2)) (fun v159 => ?_) (fun k158 hk158 => ?_)
                          · refine gST9 (lv' := [some (.inr (.inr (some (.inr 5)))), none, some (.inl i), some (.inr (.inr (some (.inr 0)))), none, some (.inr (.inr (gTop (gAI s.2 1 8)))), some (.inr (.inr y7.1)), some (.inr (.inr (gTop v9.2.2))), some (.inl s10.2.1), some (.inl s10.2.2.1), some (.inr (.inr y27.1)), none, some (.inl v30.1), none, some (.inr (.inr v36.1)), some (.inl v38), none, none, some (.inr (.inr v159.1)), none, none, none, none, none, none]) rfl rfl ?_
                            refine gST9 rfl rfl ?_
                            refine gJnT9 636 (fun (v161 : gST) => [some (.inr (.inr (some (.inr 5)))), none, some (.inl i), some (.inr (.inr (some (.inr 0)))), none, some (.inr (.inr (gTop (gAI s.2 1 8)))), some (.inr (.inr y7.1)), some (.inr (.inr (gTop v9.2.2))), some (.inl s10.2.1), some (.inl s10.2.2.1), some (.inr (.inr y27.1)), none, some (.inl v30.1), none, some (.inr (.inr v36.1)), some (.inl v38), none, none, some (.inr (.inr v159.1)), none, none, none, none, none, none]) (fun (v161 : gST) => []) (fun (v161 : gST) => (v161.1, v161.2)) (fun v161 => ?_) (fun k160 hk160 => ?_)
                            · refine gST9 rfl rfl ?_
                              refine gJnT9 669 (fun (v163 : Int32 × gST) => [some (.inr (.inr (some (.inr 5)))), none, some (.inl i), some (.inr (.inr (some (.inr 0)))), none, some (.inr (.inr (gTop (gAI s.2 1 8)))), some (.inr (.inr y7.1)), some (.inr (.inr (gTop v9.2.2))), some (.inl s10.2.1), some (.inl s10.2.2.1), some (.inr (.inr y27.1)), none, some (.inl v30.1), none, some (.inr (.inr v36.1)), some (.inl v38), none, none, some (.inr (.inr v159.1)), none, none, none, none, none, none]) (fun (v163 : Int32 × gST) => [.inl v163.1]) (fun (v163 : Int32 × gST) => (v163.2.1, v163.2.2)) (fun v163 => ?_) (fun k162 hk162 => ?_)
                              · refine gST9 (lv' := [some (.inr (.inr (some (.inr 5)))), none, some (.inl i), some (.inr (.inr (some (.inr 0)))), none, some (.inr (.inr (gTop (gAI s.2 1 8)))), some (.inr (.inr y7.1)), some (.inr (.inr (gTop v9.2.2))), some (.inl s10.2.1), some (.inl s10.2.2.1), some (.inr (.inr y27.1)), some (.inl v163.1), some (.inl v30.1), none, some (.inr (.inr v36.1)), some (.inl v38), none, none, some (.inr (.inr v159.1)), none, none, none, none, none, none]) rfl rfl ?_
                                refine gST9 rfl rfl ?_
                                refine gJnT9 699 (fun (v165 : Int32 × gST) => [some (.inr (.inr (some (.inr 5)))), none, some (.inl i), some (.inr (.inr (some (.inr 0)))), none, some (.inr (.inr (gTop (gAI s.2 1 8)))), some (.inr (.inr y7.1)), some (.inr (.inr (gTop v9.2.2))), some (.inl s10.2.1), some (.inl s10.2.2.1), some (.inr (.inr y27.1)), some (.inl v163.1), some (.inl v30.1), none, none, some (.inl v165.1), none, none, none, none, none, none, none, none, none]) (fun (v165 : Int32 × gST) => []) (fun (v165 : Int32 × gST) => (v165.2.1, v165.2.2)) (fun v165 => ?_) (fun k164 hk164 => ?_)
                                · refine gST9 rfl rfl ?_
                                  refine gST9 rfl rfl ?_
                                  refine gXT9 (n := 3) (st' := fun x166 => [.inl x166.1]) (s' := fun x166 => (x166.2, (gBm v165.2.2 3))) rfl rfl rfl rfl rfl rfl (ok_L_flip dX (by omega) v165.2.1 v30.1) (fun z => rfl) (fun z => rfl) (fun x166 => ?_)
                                  refine gST9 rfl rfl ?_
                                  refine gBT9 rfl rfl ?_ ?_
                                  · refine gST9 rfl rfl ?_
                                    refine gST9 (lv' := [some (.inr (.inr (some (.inr 5)))), some (.inl (0 : Int32)), some (.inl i), some (.inr (.inr (some (.inr 0)))), none, some (.inr (.inr (gTop (gAI s.2 1 8)))), some (.inr (.inr y7.1)), some (.inr (.inr (gTop v9.2.2))), some (.inl s10.2.1), some (.inl s10.2.2.1), some (.inr (.inr y27.1)), some (.inl v163.1), some (.inl v30.1), none, none, some (.inl v165.1), none, none, none, none, none, none, none, none, none]) rfl rfl ?_
                                    refine gST9 rfl rfl ?_
                                    refine gMkT9 [true, true, true, true, true, true, true, true, true, true, true, true, false, true, true, false, true, true, true, true, true, true, true, true, true] (lv' := [some (.inr (.inr (some (.inr 5)))), some (.inl (0 : Int32)), some (.inl i), some (.inr (.inr (some (.inr 0)))), none, some (.inr (.inr (gTop (gAI s.2 1 8)))), some (.inr (.inr y7.1)), some (.inr (.inr (gTop v9.2.2))), some (.inl s10.2.1), some (.inl s10.2.2.1), some (.inr (.inr y27.1)), some (.inl v163.1), none, none, none, none, none, none, none, none, none, none, none, none, none]) rfl rfl ?_
                                    have h3 := hk40 ((0 : Int32), v163.1, (x166.2, (gBm v165.2.2 3)))
                                    exact h3
                                  · refine gST9 rfl rfl ?_
                                    refine gST9 rfl rfl ?_
                                    refine gST9 (lv' := [some (.inr (.inr (some (.inr 5)))), some (.inl (1 : Int32)), some (.inl i), some (.inr (.inr (some (.inr 0)))), none, some (.inr (.inr (gTop (gAI s.2 1 8)))), some (.inr (.inr y7.1)), some (.inr (.inr (gTop v9.2.2))), some (.inl s10.2.1), some (.inl s10.2.2.1), some (.inr (.inr y27.1)), some (.inl v163.1), some (.inl v30.1), none, none, some (.inl v165.1), none, none, none, none, none, none, none, none, none]) rfl rfl ?_
                                    refine gST9 rfl rfl ?_
                                    refine gMkT9 [true, true, true, true, true, true, true, true, true, true, true, true, false, true, true, false, true, true, true, true, true, true, true, true, true] (lv' := [some (.inr (.inr (some (.inr 5)))), some (.inl (1 : Int32)), some (.inl i), some (.inr (.inr (some (.inr 0)))), none, some (.inr (.inr (gTop (gAI s.2 1 8)))), some (.inr (.inr y7.1)), some (.inr (.inr (gTop v9.2.2))), some (.inl s10.2.1), some (.inl s10.2.2.1), some (.inr (.inr y27.1)), some (.inl v163.1), none, none, none, none, none, none, none, none, none, none, none, none, none]) rfl rfl ?_
                                    have h3 := hk40 ((1 : Int32), v163.1, (x166.2, (gBm v165.2.2 3)))
                                    exact h3
                                · refine gBT9 rfl rfl ?_ ?_
                                  · refine gMkT9 [true, true, true, true, true, true, true, true, true, true, true, true, true, true, false, true, true, true, false, true, true, true, true, true, true] (lv' := [some (.inr (.inr (some (.inr 5)))), none, some (.inl i), some (.inr (.inr (some (.inr 0)))), none, some (.inr (.inr (gTop (gAI s.2 1 8)))), some (.inr (.inr y7.1)), some (.inr (.inr (gTop v9.2.2))), some (.inl s10.2.1), some (.inl s10.2.2.1), some (.inr (.inr y27.1)), some (.inl v163.1), some (.inl v30.1), none, none, some (.inl v38), none, none, none, none, none, none, none, none, none]) rfl rfl ?_
                                    have h3 := hk164 (v38, (v163.2.1, v163.2.2))
                                    exact h3
                                  · refine gST9 rfl rfl ?_
                                    refine gOT9 rfl rfl (fun r167 => ?_)
                                    refine gST9 rfl rfl ?_
                                    refine gST9 rfl rfl ?_
                                    refine gOT9 rfl rfl (fun z168 => ?_)
                                    refine gST9 rfl rfl ?_
                                    refine gOT9 rfl rfl (fun D169 => ?_)
                                    refine gST9 rfl rfl ?_
                                    refine gST9 rfl rfl ?_
                                    refine gST9 rfl rfl ?_
                                    refine gOT9 rfl rfl (fun z170 => ?_)
                                    refine gCT9 (st' := fun y171 => [.inl y171.1]) rfl rfl (fun _ hz => rv_recv (ci := 8) (by omega) (rv_X8_price_ hz)) rfl (ok_X8_price_ dX hX d (by omega) v163.2.1 D169 y7.1 z170) (fun z => rfl) (fun y171 => ?_)
                                    refine gST9 (lv' := [some (.inr (.inr (some (.inr 5)))), none, some (.inl i), some (.inr (.inr (some (.inr 0)))), none, some (.inr (.inr (gTop (gAI s.2 1 8)))), some (.inr (.inr y7.1)), some (.inr (.inr (gTop v9.2.2))), some (.inl s10.2.1), some (.inl s10.2.2.1), some (.inr (.inr y27.1)), some (.inl v163.1), some (.inl v30.1), none, some (.inr (.inr v36.1)), some (.inl y171.1), none, none, some (.inr (.inr v159.1)), none, none, none, none, none, none]) rfl rfl ?_
                                    refine gMkT9 [true, true, true, true, true, true, true, true, true, true, true, true, true, true, false, true, true, true, false, true, true, true, true, true, true] (lv' := [some (.inr (.inr (some (.inr 5)))), none, some (.inl i), some (.inr (.inr (some (.inr 0)))), none, some (.inr (.inr (gTop (gAI s.2 1 8)))), some (.inr (.inr y7.1)), some (.inr (.inr (gTop v9.2.2))), some (.inl s10.2.1), some (.inl s10.2.2.1), some (.inr (.inr y27.1)), some (.inl v163.1), some (.inl v30.1), none, none, some (.inl y171.1), none, none, none, none, none, none, none, none, none]) rfl rfl ?_
                                    have h3 := hk164 (y171.1, (v163.2.1, y171.2))
                                    exact h3
                              · refine gBT9 rfl rfl ?_ ?_
                                · refine gST9 rfl rfl ?_
                                  have h3 := hk162 ((0 : Int32), (v161.1, v161.2))
                                  exact h3
                                · refine gST9 rfl rfl ?_
                                  refine gST9 rfl rfl ?_
                                  refine gOT9 rfl rfl (fun r172 => ?_)
                                  refine gST9 rfl rfl ?_
                                  refine gST9 rfl rfl ?_
                                  refine gOT9 rfl rfl (fun z173 => ?_)
                                  refine gOT9 rfl rfl (fun z174 => ?_)
                                  refine gST9 rfl rfl ?_
                                  refine gCT9 (st' := fun y175 => [.inl y175.1]) rfl rfl (fun _ hz => rv_recv (ci := 8) (by omega) (rv_X8_price hz)) rfl (ok_X8_price dX hX d (by omega) v161.1 v161.2 y7.1 z174 v159.1) (fun z => rfl) (fun y175 => ?_)
                                  refine gST9 rfl rfl ?_
                                  refine gBT9 rfl rfl ?_ ?_
                                  · refine gST9 rfl rfl ?_
                                    have h3 := hk162 ((0 : Int32), (v161.1, y175.2))
                                    exact h3
                                  · refine gST9 rfl rfl ?_
                                    refine gST9 rfl rfl ?_
                                    have h3 := hk162 ((1 : Int32), (v161.1, y175.2))
                                    exact h3
                            · refine gBT9 rfl rfl ?_ ?_
                              · have h3 := hk160 ((v159.2.1, v159.2.2))
                                exact h3
                              · refine gST9 rfl rfl ?_
                                refine gST9 rfl rfl ?_
                                refine gST9 rfl rfl ?_
                                refine gOT9 rfl rfl (fun z176 => ?_)
                                refine gST9 rfl rfl ?_
                                refine gOT9 rfl rfl (fun z177 => ?_)
                                refine gST9 rfl rfl ?_
                                refine gST9 rfl rfl ?_
                                refine gOT9 rfl rfl (fun D178 => ?_)
                                have h3 := hk160 ((v159.2.1, D178))
                                exact h3
                          · refine gBT9 rfl rfl ?_ ?_
                            · refine gST9 rfl rfl ?_
                              refine gST9 rfl rfl ?_
                              refine gMkT9 [true, false, true, true, true, true, true, true, true, true, true, true, true, false, true, true, true, true, true, true, true, true, true, true, true] (lv' := [some (.inr (.inr (some (.inr 5)))), none, some (.inl i), some (.inr (.inr (some (.inr 0)))), none, some (.inr (.inr (gTop (gAI s.2 1 8)))), some (.inr (.inr y7.1)), some (.inr (.inr (gTop v9.2.2))), some (.inl s10.2.1), some (.inl s10.2.2.1), some (.inr (.inr y27.1)), none, some (.inl v30.1), none, some (.inr (.inr v36.1)), some (.inl v38), none, none, none, none, none, none, none, none, none]) rfl rfl ?_
                              have h3 := hk158 (none, (v36.2.1, y39.2))
                              exact h3
                            · refine gST9 rfl rfl ?_
                              refine gOT9 rfl rfl (fun r179 => ?_)
                              refine gST9 rfl rfl ?_
                              refine gST9 rfl rfl ?_
                              refine gOT9 rfl rfl (fun z180 => ?_)
                              refine gOT9 rfl rfl (fun r181 => ?_)
                              refine gOT9 rfl rfl (fun D182 => ?_)
                              refine gOT9 rfl rfl (fun u183 => ?_)
                              refine gMkT9 [true, false, true, true, true, true, true, true, true, true, true, true, true, false, true, true, true, true, true, true, true, true, true, true, true] (lv' := [some (.inr (.inr (some (.inr 5)))), none, some (.inl i), some (.inr (.inr (some (.inr 0)))), none, some (.inr (.inr (gTop (gAI s.2 1 8)))), some (.inr (.inr y7.1)), some (.inr (.inr (gTop v9.2.2))), some (.inl s10.2.1), some (.inl s10.2.2.1), some (.inr (.inr y27.1)), none, some (.inl v30.1), none, some (.inr (.inr v36.1)), some (.inl v38), none, none, none, none, none, none, none, none, none]) rfl rfl ?_
                              have h3 := hk158 ((gTop y39.2), (v36.2.1, D182))
                              exact h3
                        refine gIfT9 (fun q5 => ?_) (fun q5 => ?_)
                        · rw [q5]
                          refine gST9 rfl rfl ?_
                          refine gST9 rfl rfl ?_
                          refine gST9 rfl rfl ?_
                          refine gCT9 (st' := fun y184 => [.inl y184.1]) rfl rfl (fun _ hz => rv_recv (ci := 10) (by omega) (rv_X10_below hz)) rfl (ok_X10_below dX hX d (by omega) v36.2.1 y39.2 (gTop (gAI s.2 1 8)) (2 : Int32)) (fun z => rfl) (fun y184 => ?_)
                          refine gJnT9 733 (fun (v186 : Int32) => [some (.inr (.inr (some (.inr 5)))), some (.inl s10.1), some (.inl i), some (.inr (.inr (some (.inr 0)))), none, some (.inr (.inr (gTop (gAI s.2 1 8)))), some (.inr (.inr y7.1)), some (.inr (.inr (gTop v9.2.2))), some (.inl s10.2.1), some (.inl s10.2.2.1), some (.inr (.inr y27.1)), none, none, none, none, none, none, none, none, none, none, none, none, none, none]) (fun (v186 : Int32) => [.inl v186]) (fun (v186 : Int32) => (v36.2.1, y184.2)) (fun v186 => ?_) (fun k185 hk185 => ?_)
                          · refine gST9 (lv' := [some (.inr (.inr (some (.inr 5)))), some (.inl s10.1), some (.inl i), some (.inr (.inr (some (.inr 0)))), none, some (.inr (.inr (gTop (gAI s.2 1 8)))), some (.inr (.inr y7.1)), some (.inr (.inr (gTop v9.2.2))), some (.inl s10.2.1), some (.inl s10.2.2.1), some (.inr (.inr y27.1)), some (.inl v186), none, none, none, none, none, none, none, none, none, none, none, none, none]) rfl rfl ?_
                            refine gST9 rfl rfl ?_
                            refine gBT9 rfl rfl ?_ ?_
                            · have h3 := hk40 (s10.1, v186, (v36.2.1, y184.2))
                              exact h3
                            · refine gST9 rfl rfl ?_
                              refine gXT9 (n := 0) (st' := fun x187 => [.inl x187.1]) (s' := fun x187 => (x187.2, y184.2)) rfl rfl rfl rfl rfl rfl (ok_X7_build dX (by omega) v36.2.1) (fun z => rfl) (fun z => rfl) (fun x187 => ?_)
                              refine gST9 rfl rfl ?_
                              refine gCT9 (st' := fun y188 => [.inl y188.1, .inl x187.1]) rfl rfl (fun _ hz => rv_recv (ci := 8) (by omega) (rv_X8_build hz)) rfl (ok_X8_build dX hX d (by omega) x187.2 y184.2 y7.1) (fun z => rfl) (fun y188 => ?_)
                              refine gBT9 rfl rfl ?_ ?_
                              · refine gST9 rfl rfl ?_
                                refine gST9 (lv' := [some (.inr (.inr (some (.inr 5)))), some (.inl (0 : Int32)), some (.inl i), some (.inr (.inr (some (.inr 0)))), none, some (.inr (.inr (gTop (gAI s.2 1 8)))), some (.inr (.inr y7.1)), some (.inr (.inr (gTop v9.2.2))), some (.inl s10.2.1), some (.inl s10.2.2.1), some (.inr (.inr y27.1)), some (.inl v186), none, none, none, none, none, none, none, none, none, none, none, none, none]) rfl rfl ?_
                                refine gST9 rfl rfl ?_
                                have h3 := hk40 ((0 : Int32), v186, (x187.2, y188.2))
                                exact h3
                              · refine gST9 rfl rfl ?_
                                refine gST9 rfl rfl ?_
                                refine gST9 (lv' := [some (.inr (.inr (some (.inr 5)))), some (.inl (1 : Int32)), some (.inl i), some (.inr (.inr (some (.inr 0)))), none, some (.inr (.inr (gTop (gAI s.2 1 8)))), some (.inr (.inr y7.1)), some (.inr (.inr (gTop v9.2.2))), some (.inl s10.2.1), some (.inl s10.2.2.1), some (.inr (.inr y27.1)), some (.inl v186), none, none, none, none, none, none, none, none, none, none, none, none, none]) rfl rfl ?_
                                refine gST9 rfl rfl ?_
                                have h3 := hk40 ((1 : Int32), v186, (x187.2, y188.2))
                                exact h3
                          · refine gBT9 rfl rfl ?_ ?_
                            · refine gST9 rfl rfl ?_
                              refine gMkT9 [true, true, true, true, true, true, true, true, true, true, true, true, false, false, false, false, true, true, true, true, true, true, true, true, true] (lv' := [some (.inr (.inr (some (.inr 5)))), some (.inl s10.1), some (.inl i), some (.inr (.inr (some (.inr 0)))), none, some (.inr (.inr (gTop (gAI s.2 1 8)))), some (.inr (.inr y7.1)), some (.inr (.inr (gTop v9.2.2))), some (.inl s10.2.1), some (.inl s10.2.2.1), some (.inr (.inr y27.1)), none, none, none, none, none, none, none, none, none, none, none, none, none, none]) rfl rfl ?_
                              have h3 := hk185 ((0 : Int32))
                              exact h3
                            · refine gST9 rfl rfl ?_
                              refine gST9 rfl rfl ?_
                              refine gMkT9 [true, true, true, true, true, true, true, true, true, true, true, true, false, false, false, false, true, true, true, true, true, true, true, true, true] (lv' := [some (.inr (.inr (some (.inr 5)))), some (.inl s10.1), some (.inl i), some (.inr (.inr (some (.inr 0)))), none, some (.inr (.inr (gTop (gAI s.2 1 8)))), some (.inr (.inr y7.1)), some (.inr (.inr (gTop v9.2.2))), some (.inl s10.2.1), some (.inl s10.2.2.1), some (.inr (.inr y27.1)), none, none, none, none, none, none, none, none, none, none, none, none, none, none]) rfl rfl ?_
                              have h3 := hk185 ((1 : Int32))
                              exact h3
                        refine gIfT9 (fun q6 => ?_) (fun q6 => ?_)
                        · rw [q6]
                          refine gST9 rfl rfl ?_
                          refine gST9 rfl rfl ?_
                          refine gST9 rfl rfl ?_
                          refine gCT9 (st' := fun y189 => [.inl y189.1]) rfl rfl (fun _ hz => rv_recv (ci := 10) (by omega) (rv_X10_below hz)) rfl (ok_X10_below dX hX d (by omega) v36.2.1 y39.2 (gTop (gAI s.2 1 8)) (3 : Int32)) (fun z => rfl) (fun y189 => ?_)
                          refine gST9 (lv' := [some (.inr (.inr (some (.inr 5)))), some (.inl s10.1), some (.inl i), some (.inr (.inr (some (.inr 0)))), none, some (.inr (.inr (gTop (gAI s.2 1 8)))), some (.inr (.inr y7.1)), some (.inr (.inr (gTop v9.2.2))), some (.inl s10.2.1), some (.inl s10.2.2.1), some (.inr (.inr y27.1)), none, some (.inl v30.1), some (.inl v34), some (.inr (.inr v36.1)), some (.inl v38), none, none, none, some (.inl y189.1), none, none, none, none, none]) rfl rfl ?_
                          refine gST9 rfl rfl ?_
                          refine gJnT9 779 (fun (v191 : Int32) => [some (.inr (.inr (some (.inr 5)))), none, some (.inl i), some (.inr (.inr (some (.inr 0)))), none, some (.inr (.inr (gTop (gAI s.2 1 8)))), some (.inr (.inr y7.1)), some (.inr (.inr (gTop v9.2.2))), some (.inl s10.2.1), some (.inl s10.2.2.1), some (.inr (.inr y27.1)), none, none, none, none, none, none, none, none, some (.inl y189.1), none, none, none, none, none]) (fun (v191 : Int32) => [.inl v191]) (fun (v191 : Int32) => (v36.2.1, y189.2)) (fun v191 => ?_) (fun k190 hk190 => ?_)
                          · refine gST9 (lv' := [some (.inr (.inr (some (.inr 5)))), none, some (.inl i), some (.inr (.inr (some (.inr 0)))), none, some (.inr (.inr (gTop (gAI s.2 1 8)))), some (.inr (.inr y7.1)), some (.inr (.inr (gTop v9.2.2))), some (.inl s10.2.1), some (.inl s10.2.2.1), some (.inr (.inr y27.1)), some (.inl v191), none, none, none, none, none, none, none, some (.inl y189.1), none, none, none, none, none]) rfl rfl ?_
                            refine gST9 rfl rfl ?_
                            refine gST9 rfl rfl ?_
                            refine gXT9 (n := 1) (st' := fun x192 => [.inl x192.1]) (s' := fun x192 => (x192.2, (gBm y189.2 1))) rfl rfl rfl rfl rfl rfl (ok_L_improve dX (by omega) v36.2.1 y189.1) (fun z => rfl) (fun z => rfl) (fun x192 => ?_)
                            refine gST9 rfl rfl ?_
                            refine gJnT9 804 (fun (v194 : Int32 × gST) => [some (.inr (.inr (some (.inr 5)))), none, some (.inl i), some (.inr (.inr (some (.inr 0)))), none, some (.inr (.inr (gTop (gAI s.2 1 8)))), some (.inr (.inr y7.1)), some (.inr (.inr (gTop v9.2.2))), some (.inl s10.2.1), some (.inl s10.2.2.1), some (.inr (.inr y27.1)), some (.inl v191), none, none, none, none, none, none, none, none, none, none, none, none, none]) (fun (v194 : Int32 × gST) => [.inl v194.1, .inl x192.1]) (fun (v194 : Int32 × gST) => (v194.2.1, v194.2.2)) (fun v194 => ?_) (fun k193 hk193 => ?_)
                            · refine gBT9 rfl rfl ?_ ?_
                              · refine gST9 rfl rfl ?_
                                refine gST9 (lv' := [some (.inr (.inr (some (.inr 5)))), some (.inl (0 : Int32)), some (.inl i), some (.inr (.inr (some (.inr 0)))), none, some (.inr (.inr (gTop (gAI s.2 1 8)))), some (.inr (.inr y7.1)), some (.inr (.inr (gTop v9.2.2))), some (.inl s10.2.1), some (.inl s10.2.2.1), some (.inr (.inr y27.1)), some (.inl v191), none, none, none, none, none, none, none, none, none, none, none, none, none]) rfl rfl ?_
                                refine gST9 rfl rfl ?_
                                have h3 := hk40 ((0 : Int32), v191, (v194.2.1, v194.2.2))
                                exact h3
                              · refine gST9 rfl rfl ?_
                                refine gST9 rfl rfl ?_
                                refine gST9 (lv' := [some (.inr (.inr (some (.inr 5)))), some (.inl (1 : Int32)), some (.inl i), some (.inr (.inr (some (.inr 0)))), none, some (.inr (.inr (gTop (gAI s.2 1 8)))), some (.inr (.inr y7.1)), some (.inr (.inr (gTop v9.2.2))), some (.inl s10.2.1), some (.inl s10.2.2.1), some (.inr (.inr y27.1)), some (.inl v191), none, none, none, none, none, none, none, none, none, none, none, none, none]) rfl rfl ?_
                                refine gST9 rfl rfl ?_
                                have h3 := hk40 ((1 : Int32), v191, (v194.2.1, v194.2.2))
                                exact h3
                            · refine gBT9 rfl rfl ?_ ?_
                              · refine gST9 rfl rfl ?_
                                refine gMkT9 [true, true, true, true, true, true, true, true, true, true, true, true, true, true, true, true, true, true, true, false, true, true, true, true, true] (lv' := [some (.inr (.inr (some (.inr 5)))), none, some (.inl i), some (.inr (.inr (some (.inr 0)))), none, some (.inr (.inr (gTop (gAI s.2 1 8)))), some (.inr (.inr y7.1)), some (.inr (.inr (gTop v9.2.2))), some (.inl s10.2.1), some (.inl s10.2.2.1), some (.inr (.inr y27.1)), some (.inl v191), none, none, none, none, none, none, none, none, none, none, none, none, none]) rfl rfl ?_
                                have h3 := hk193 ((-2000000098 : Int32), (x192.2, (gBm y189.2 1)))
                                exact h3
                              · refine gST9 rfl rfl ?_
                                refine gST9 rfl rfl ?_
                                refine gCT9 (st' := fun y195 => [.inl y195.1, .inl x192.1]) rfl rfl (fun _ hz => rv_recv (ci := 8) (by omega) (rv_X8_improve hz)) rfl (ok_X8_improve dX hX d (by omega) x192.2 (gBm y189.2 1) y7.1 y189.1) (fun z => rfl) (fun y195 => ?_)
                                refine gST9 rfl rfl ?_
                                refine gMkT9 [true, true, true, true, true, true, true, true, true, true, true, true, true, true, true, true, true, true, true, false, true, true, true, true, true] (lv' := [some (.inr (.inr (some (.inr 5)))), none, some (.inl i), some (.inr (.inr (some (.inr 0)))), none, some (.inr (.inr (gTop (gAI s.2 1 8)))), some (.inr (.inr y7.1)), some (.inr (.inr (gTop v9.2.2))), some (.inl s10.2.1), some (.inl s10.2.2.1), some (.inr (.inr y27.1)), some (.inl v191), none, none, none, none, none, none, none, none, none, none, none, none, none]) rfl rfl ?_
                                have h3 := hk193 (y195.1, (x192.2, y195.2))
                                exact h3
                          · refine gBT9 rfl rfl ?_ ?_
                            · refine gST9 rfl rfl ?_
                              refine gMkT9 [true, false, true, true, true, true, true, true, true, true, true, true, false, false, false, false, true, true, true, true, true, true, true, true, true] (lv' := [some (.inr (.inr (some (.inr 5)))), none, some (.inl i), some (.inr (.inr (some (.inr 0)))), none, some (.inr (.inr (gTop (gAI s.2 1 8)))), some (.inr (.inr y7.1)), some (.inr (.inr (gTop v9.2.2))), some (.inl s10.2.1), some (.inl s10.2.2.1), some (.inr (.inr y27.1)), none, none, none, none, none, none, none, none, some (.inl y189.1), none, none, none, none, none]) rfl rfl ?_
                              have h3 := hk190 ((0 : Int32))
                              exact h3
                            · refine gST9 rfl rfl ?_
                              refine gST9 rfl rfl ?_
                              refine gMkT9 [true, false, true, true, true, true, true, true, true, true, true, true, false, false, false, false, true, true, true, true, true, true, true, true, true] (lv' := [some (.inr (.inr (some (.inr 5)))), none, some (.inl i), some (.inr (.inr (some (.inr 0)))), none, some (.inr (.inr (gTop (gAI s.2 1 8)))), some (.inr (.inr y7.1)), some (.inr (.inr (gTop v9.2.2))), some (.inl s10.2.1), some (.inl s10.2.2.1), some (.inr (.inr y27.1)), none, none, none, none, none, none, none, none, some (.inl y189.1), none, none, none, none, none]) rfl rfl ?_
                              have h3 := hk190 ((1 : Int32))
                              exact h3
                        have e0 := psw_ne (n := 0) rfl q0
                        have e1 := psw_ne (n := 1) rfl q1
                        have e2 := psw_ne (n := 2) rfl q2
                        have e3 := psw_ne (n := 3) rfl q3
                        have e4 := psw_ne (n := 4) rfl q4
                        have e5 := psw_ne (n := 5) rfl q5
                        have e6 := psw_ne (n := 6) rfl q6
                        refine gSwT9 rfl (by omega) ?_
                        refine gST9 rfl rfl ?_
                        refine gST9 rfl rfl ?_
                        refine gOT9 rfl rfl (fun r196 => ?_)
                        refine gOT9 rfl rfl (fun z197 => ?_)
                        refine gST9 rfl rfl ?_
                        refine gST9 rfl rfl ?_
                        refine gCT9 (st' := fun y198 => [.inl y198.1]) rfl rfl (fun _ hz => rv_recv (ci := 10) (by omega) (rv_X10_below hz)) rfl (ok_X10_below dX hX d (by omega) v36.2.1 y39.2 (gTop (gAI s.2 1 8)) (z197 + (1 : Int32))) (fun z => rfl) (fun y198 => ?_)
                        refine gST9 (lv' := [some (.inr (.inr (some (.inr 5)))), some (.inl s10.1), some (.inl i), some (.inr (.inr (some (.inr 0)))), none, some (.inr (.inr (gTop (gAI s.2 1 8)))), some (.inr (.inr y7.1)), some (.inr (.inr (gTop v9.2.2))), some (.inl s10.2.1), some (.inl s10.2.2.1), some (.inr (.inr y27.1)), none, some (.inl v30.1), some (.inl v34), some (.inr (.inr v36.1)), some (.inl v38), none, none, none, none, some (.inl y198.1), none, none, none, none]) rfl rfl ?_
                        refine gST9 rfl rfl ?_
                        refine gST9 rfl rfl ?_
                        refine gOT9 rfl rfl (fun r199 => ?_)
                        refine gOT9 rfl rfl (fun z200 => ?_)
                        refine gJnT9 847 (fun (v202 : Int32) => [some (.inr (.inr (some (.inr 5)))), none, some (.inl i), some (.inr (.inr (some (.inr 0)))), none, some (.inr (.inr (gTop (gAI s.2 1 8)))), some (.inr (.inr y7.1)), some (.inr (.inr (gTop v9.2.2))), some (.inl s10.2.1), some (.inl s10.2.2.1), some (.inr (.inr y27.1)), none, some (.inl v30.1), some (.inl v34), none, none, none, none, none, none, some (.inl y198.1), none, none, none, none]) (fun (v202 : Int32) => [.inl v202]) (fun (v202 : Int32) => (v36.2.1, y198.2)) (fun v202 => ?_) (fun k201 hk201 => ?_)
                        · refine gST9 (lv' := [some (.inr (.inr (some (.inr 5)))), none, some (.inl i), some (.inr (.inr (some (.inr 0)))), none, some (.inr (.inr (gTop (gAI s.2 1 8)))), some (.inr (.inr y7.1)), some (.inr (.inr (gTop v9.2.2))), some (.inl s10.2.1), some (.inl s10.2.2.1), some (.inr (.inr y27.1)), none, some (.inl v30.1), some (.inl v34), none, none, none, none, none, none, some (.inl y198.1), some (.inl v202), none, none, none]) rfl rfl ?_
                          refine gST9 rfl rfl ?_
                          refine gJnT9 888 (fun (v204 : Int32 × gST) => [some (.inr (.inr (some (.inr 5)))), none, some (.inl i), some (.inr (.inr (some (.inr 0)))), none, some (.inr (.inr (gTop (gAI s.2 1 8)))), some (.inr (.inr y7.1)), some (.inr (.inr (gTop v9.2.2))), some (.inl s10.2.1), some (.inl s10.2.2.1), some (.inr (.inr y27.1)), none, some (.inl v30.1), some (.inl v34), none, none, none, none, none, none, some (.inl y198.1), some (.inl v202), none, none, none]) (fun (v204 : Int32 × gST) => [.inl v204.1]) (fun (v204 : Int32 × gST) => (v204.2.1, v204.2.2)) (fun v204 => ?_) (fun k203 hk203 => ?_)
                          · refine gST9 (lv' := [some (.inr (.inr (some (.inr 5)))), none, some (.inl i), some (.inr (.inr (some (.inr 0)))), none, some (.inr (.inr (gTop (gAI s.2 1 8)))), some (.inr (.inr y7.1)), some (.inr (.inr (gTop v9.2.2))), some (.inl s10.2.1), some (.inl s10.2.2.1), some (.inr (.inr y27.1)), none, some (.inl v30.1), some (.inl v34), none, none, none, none, none, none, some (.inl y198.1), some (.inl v202), some (.inl v204.1), none, none]) rfl rfl ?_
                            refine gST9 rfl rfl ?_
                            refine gST9 rfl rfl ?_
                            refine gST9 rfl rfl ?_
                            refine gST9 rfl rfl ?_
                            refine gST9 rfl rfl ?_
                            refine gCT9 (st' := fun y205 => [.inl y205.1, .inl ((2 : Int32) * v30.1)]) rfl rfl (fun _ hz => rv_recv (ci := 10) (by omega) (rv_X10_below hz)) rfl (ok_X10_below dX hX d (by omega) v204.2.1 v204.2.2 (gTop (gAI s.2 1 8)) (2 : Int32)) (fun z => rfl) (fun y205 => ?_)
                            refine gST9 rfl rfl ?_
                            refine gST9 (lv' := [some (.inr (.inr (some (.inr 5)))), none, some (.inl i), some (.inr (.inr (some (.inr 0)))), none, some (.inr (.inr (gTop (gAI s.2 1 8)))), some (.inr (.inr y7.1)), some (.inr (.inr (gTop v9.2.2))), some (.inl s10.2.1), some (.inl s10.2.2.1), some (.inr (.inr y27.1)), none, some (.inl v30.1), some (.inl v34), none, none, none, none, none, none, some (.inl y198.1), some (.inl v202), some (.inl v204.1), some (.inl (((2 : Int32) * v30.1) + y205.1)), none]) rfl rfl ?_
                            refine gST9 rfl rfl ?_
                            refine gJnT9 932 (fun (v207 : Int32) => [some (.inr (.inr (some (.inr 5)))), none, some (.inl i), some (.inr (.inr (some (.inr 0)))), none, some (.inr (.inr (gTop (gAI s.2 1 8)))), some (.inr (.inr y7.1)), some (.inr (.inr (gTop v9.2.2))), some (.inl s10.2.1), some (.inl s10.2.2.1), some (.inr (.inr y27.1)), none, some (.inl v30.1), none, none, none, none, none, none, none, some (.inl y198.1), none, some (.inl v204.1), some (.inl (((2 : Int32) * v30.1) + y205.1)), none]) (fun (v207 : Int32) => [.inl v207]) (fun (v207 : Int32) => (v204.2.1, y205.2)) (fun v207 => ?_) (fun k206 hk206 => ?_)
                            · refine gST9 (lv' := [some (.inr (.inr (some (.inr 5)))), none, some (.inl i), some (.inr (.inr (some (.inr 0)))), none, some (.inr (.inr (gTop (gAI s.2 1 8)))), some (.inr (.inr y7.1)), some (.inr (.inr (gTop v9.2.2))), some (.inl s10.2.1), some (.inl s10.2.2.1), some (.inr (.inr y27.1)), none, some (.inl v30.1), none, none, none, none, none, none, none, some (.inl y198.1), none, some (.inl v204.1), some (.inl (((2 : Int32) * v30.1) + y205.1)), some (.inl v207)]) rfl rfl ?_
                              refine gST9 rfl rfl ?_
                              refine gJnT9 968 (fun (v209 : Int32 × gST) => [some (.inr (.inr (some (.inr 5)))), none, some (.inl i), some (.inr (.inr (some (.inr 0)))), none, some (.inr (.inr (gTop (gAI s.2 1 8)))), some (.inr (.inr y7.1)), some (.inr (.inr (gTop v9.2.2))), some (.inl s10.2.1), some (.inl s10.2.2.1), some (.inr (.inr y27.1)), none, none, none, none, none, none, none, none, none, some (.inl y198.1), none, some (.inl v204.1), some (.inl (((2 : Int32) * v30.1) + y205.1)), some (.inl v207)]) (fun (v209 : Int32 × gST) => [.inl v209.1]) (fun (v209 : Int32 × gST) => (v209.2.1, v209.2.2)) (fun v209 => ?_) (fun k208 hk208 => ?_)
                              · refine gST9 (lv' := [some (.inr (.inr (some (.inr 5)))), none, some (.inl i), some (.inr (.inr (some (.inr 0)))), none, some (.inr (.inr (gTop (gAI s.2 1 8)))), some (.inr (.inr y7.1)), some (.inr (.inr (gTop v9.2.2))), some (.inl s10.2.1), some (.inl s10.2.2.1), some (.inr (.inr y27.1)), some (.inl v209.1), none, none, none, none, none, none, none, none, some (.inl y198.1), none, some (.inl v204.1), some (.inl (((2 : Int32) * v30.1) + y205.1)), some (.inl v207)]) rfl rfl ?_
                                refine gST9 rfl rfl ?_
                                refine gJnT9 982 (fun (v211 : Int32) => [some (.inr (.inr (some (.inr 5)))), none, some (.inl i), some (.inr (.inr (some (.inr 0)))), none, some (.inr (.inr (gTop (gAI s.2 1 8)))), some (.inr (.inr y7.1)), some (.inr (.inr (gTop v9.2.2))), some (.inl s10.2.1), some (.inl s10.2.2.1), some (.inr (.inr y27.1)), some (.inl v209.1), none, none, none, none, none, none, none, none, some (.inl y198.1), none, some (.inl v204.1), some (.inl (((2 : Int32) * v30.1) + y205.1)), none]) (fun (v211 : Int32) => [.inl v211]) (fun (v211 : Int32) => (v209.2.1, v209.2.2)) (fun v211 => ?_) (fun k210 hk210 => ?_)
                                · refine gST9 (lv' := [some (.inr (.inr (some (.inr 5)))), none, some (.inl i), some (.inr (.inr (some (.inr 0)))), none, some (.inr (.inr (gTop (gAI s.2 1 8)))), some (.inr (.inr y7.1)), some (.inr (.inr (gTop v9.2.2))), some (.inl s10.2.1), some (.inl s10.2.2.1), some (.inr (.inr y27.1)), some (.inl v209.1), none, none, none, some (.inl v211), none, none, none, none, some (.inl y198.1), none, some (.inl v204.1), some (.inl (((2 : Int32) * v30.1) + y205.1)), none]) rfl rfl ?_
                                  refine gST9 rfl rfl ?_
                                  refine gJnT9 1021 (fun (v213 : Int32 × gST) => [some (.inr (.inr (some (.inr 5)))), none, some (.inl i), some (.inr (.inr (some (.inr 0)))), none, some (.inr (.inr (gTop (gAI s.2 1 8)))), some (.inr (.inr y7.1)), some (.inr (.inr (gTop v9.2.2))), some (.inl s10.2.1), some (.inl s10.2.2.1), some (.inr (.inr y27.1)), some (.inl v209.1), none, none, none, some (.inl v213.1), none, none, none, none, some (.inl y198.1), none, some (.inl v204.1), some (.inl (((2 : Int32) * v30.1) + y205.1)), none]) (fun (v213 : Int32 × gST) => []) (fun (v213 : Int32 × gST) => (v213.2.1, v213.2.2)) (fun v213 => ?_) (fun k212 hk212 => ?_)
                                  · refine gST9 rfl rfl ?_
                                    refine gST9 rfl rfl ?_
                                    refine gST9 rfl rfl ?_
                                    refine gST9 rfl rfl ?_
                                    refine gXT9 (n := 5) (st' := fun x214 => [.inl x214.1]) (s' := fun x214 => (x214.2, (gBm v213.2.2 5))) rfl rfl rfl rfl rfl rfl (ok_L_insert dX (by omega) v213.2.1 y198.1 v204.1 (((2 : Int32) * v30.1) + y205.1)) (fun z => rfl) (fun z => rfl) (fun x214 => ?_)
                                    refine gST9 rfl rfl ?_
                                    refine gBT9 rfl rfl ?_ ?_
                                    · refine gST9 rfl rfl ?_
                                      refine gST9 (lv' := [some (.inr (.inr (some (.inr 5)))), some (.inl (0 : Int32)), some (.inl i), some (.inr (.inr (some (.inr 0)))), none, some (.inr (.inr (gTop (gAI s.2 1 8)))), some (.inr (.inr y7.1)), some (.inr (.inr (gTop v9.2.2))), some (.inl s10.2.1), some (.inl s10.2.2.1), some (.inr (.inr y27.1)), some (.inl v209.1), none, none, none, some (.inl v213.1), none, none, none, none, some (.inl y198.1), none, some (.inl v204.1), some (.inl (((2 : Int32) * v30.1) + y205.1)), none]) rfl rfl ?_
                                      refine gMkT9 [true, true, true, true, true, true, true, true, true, true, true, true, true, true, true, false, true, true, true, true, false, true, false, false, true] (lv' := [some (.inr (.inr (some (.inr 5)))), some (.inl (0 : Int32)), some (.inl i), some (.inr (.inr (some (.inr 0)))), none, some (.inr (.inr (gTop (gAI s.2 1 8)))), some (.inr (.inr y7.1)), some (.inr (.inr (gTop v9.2.2))), some (.inl s10.2.1), some (.inl s10.2.2.1), some (.inr (.inr y27.1)), some (.inl v209.1), none, none, none, none, none, none, none, none, none, none, none, none, none]) rfl rfl ?_
                                      have h3 := hk40 ((0 : Int32), v209.1, (x214.2, (gBm v213.2.2 5)))
                                      exact h3
                                    · refine gST9 rfl rfl ?_
                                      refine gST9 rfl rfl ?_
                                      refine gST9 (lv' := [some (.inr (.inr (some (.inr 5)))), some (.inl (1 : Int32)), some (.inl i), some (.inr (.inr (some (.inr 0)))), none, some (.inr (.inr (gTop (gAI s.2 1 8)))), some (.inr (.inr y7.1)), some (.inr (.inr (gTop v9.2.2))), some (.inl s10.2.1), some (.inl s10.2.2.1), some (.inr (.inr y27.1)), some (.inl v209.1), none, none, none, some (.inl v213.1), none, none, none, none, some (.inl y198.1), none, some (.inl v204.1), some (.inl (((2 : Int32) * v30.1) + y205.1)), none]) rfl rfl ?_
                                      refine gMkT9 [true, true, true, true, true, true, true, true, true, true, true, true, true, true, true, false, true, true, true, true, false, true, false, false, true] (lv' := [some (.inr (.inr (some (.inr 5)))), some (.inl (1 : Int32)), some (.inl i), some (.inr (.inr (some (.inr 0)))), none, some (.inr (.inr (gTop (gAI s.2 1 8)))), some (.inr (.inr y7.1)), some (.inr (.inr (gTop v9.2.2))), some (.inl s10.2.1), some (.inl s10.2.2.1), some (.inr (.inr y27.1)), some (.inl v209.1), none, none, none, none, none, none, none, none, none, none, none, none, none]) rfl rfl ?_
                                      have h3 := hk40 ((1 : Int32), v209.1, (x214.2, (gBm v213.2.2 5)))
                                      exact h3
                                  · refine gBT9 rfl rfl ?_ ?_
                                    · have h3 := hk212 (v211, (v209.2.1, v209.2.2))
                                      exact h3
                                    · refine gST9 rfl rfl ?_
                                      refine gOT9 rfl rfl (fun r215 => ?_)
                                      refine gST9 rfl rfl ?_
                                      refine gST9 rfl rfl ?_
                                      refine gOT9 rfl rfl (fun r216 => ?_)
                                      refine gST9 rfl rfl ?_
                                      refine gOT9 rfl rfl (fun r217 => ?_)
                                      refine gST9 rfl rfl ?_
                                      refine gST9 rfl rfl ?_
                                      refine gCT9 (st' := fun y218 => [.inr (.inr y218.1), .inl y198.1, .inr (.inr r215)]) rfl rfl (fun _ _ => rfl) rfl (ok_L_inserted dX hX d (by omega) v209.2.1 v209.2.2 r217 v204.1 (((2 : Int32) * v30.1) + y205.1)) (fun z => rfl) (fun y218 => ?_)
                                      refine gOT9 rfl rfl (fun D219 => ?_)
                                      refine gST9 rfl rfl ?_
                                      refine gST9 rfl rfl ?_
                                      refine gCT9 (st' := fun y220 => [.inl y220.1]) rfl rfl (fun _ hz => rv_recv (ci := 8) (by omega) (rv_X8_price_ hz)) rfl (ok_X8_price_ dX hX d (by omega) v209.2.1 D219 y7.1 y198.1) (fun z => rfl) (fun y220 => ?_)
                                      refine gST9 (lv' := [some (.inr (.inr (some (.inr 5)))), none, some (.inl i), some (.inr (.inr (some (.inr 0)))), none, some (.inr (.inr (gTop (gAI s.2 1 8)))), some (.inr (.inr y7.1)), some (.inr (.inr (gTop v9.2.2))), some (.inl s10.2.1), some (.inl s10.2.2.1), some (.inr (.inr y27.1)), some (.inl v209.1), none, none, none, some (.inl y220.1), none, none, none, none, some (.inl y198.1), none, some (.inl v204.1), some (.inl (((2 : Int32) * v30.1) + y205.1)), none]) rfl rfl ?_
                                      have h3 := hk212 (y220.1, (v209.2.1, y220.2))
                                      exact h3
                                · refine gBT9 rfl rfl ?_ ?_
                                  · refine gST9 rfl rfl ?_
                                    refine gMkT9 [true, true, true, true, true, true, true, true, true, true, true, true, true, true, true, true, true, true, true, true, true, true, true, true, false] (lv' := [some (.inr (.inr (some (.inr 5)))), none, some (.inl i), some (.inr (.inr (some (.inr 0)))), none, some (.inr (.inr (gTop (gAI s.2 1 8)))), some (.inr (.inr y7.1)), some (.inr (.inr (gTop v9.2.2))), some (.inl s10.2.1), some (.inl s10.2.2.1), some (.inr (.inr y27.1)), some (.inl v209.1), none, none, none, none, none, none, none, none, some (.inl y198.1), none, some (.inl v204.1), some (.inl (((2 : Int32) * v30.1) + y205.1)), none]) rfl rfl ?_
                                    have h3 := hk210 ((-2000000097 : Int32))
                                    exact h3
                                  · refine gST9 rfl rfl ?_
                                    refine gST9 rfl rfl ?_
                                    refine gMkT9 [true, true, true, true, true, true, true, true, true, true, true, true, true, true, true, true, true, true, true, true, true, true, true, true, false] (lv' := [some (.inr (.inr (some (.inr 5)))), none, some (.inl i), some (.inr (.inr (some (.inr 0)))), none, some (.inr (.inr (gTop (gAI s.2 1 8)))), some (.inr (.inr y7.1)), some (.inr (.inr (gTop v9.2.2))), some (.inl s10.2.1), some (.inl s10.2.2.1), some (.inr (.inr y27.1)), some (.inl v209.1), none, none, none, none, none, none, none, none, some (.inl y198.1), none, some (.inl v204.1), some (.inl (((2 : Int32) * v30.1) + y205.1)), none]) rfl rfl ?_
                                    have h3 := hk210 ((-2000000099 : Int32))
                                    exact h3
                              · refine gBT9 rfl rfl ?_ ?_
                                · refine gST9 rfl rfl ?_
                                  refine gMkT9 [true, true, true, true, true, true, true, true, true, true, true, true, false, true, true, true, true, true, true, true, true, true, true, true, true] (lv' := [some (.inr (.inr (some (.inr 5)))), none, some (.inl i), some (.inr (.inr (some (.inr 0)))), none, some (.inr (.inr (gTop (gAI s.2 1 8)))), some (.inr (.inr y7.1)), some (.inr (.inr (gTop v9.2.2))), some (.inl s10.2.1), some (.inl s10.2.2.1), some (.inr (.inr y27.1)), none, none, none, none, none, none, none, none, none, some (.inl y198.1), none, some (.inl v204.1), some (.inl (((2 : Int32) * v30.1) + y205.1)), some (.inl v207)]) rfl rfl ?_
                                  have h3 := hk208 ((0 : Int32), (v204.2.1, y205.2))
                                  exact h3
                                · refine gST9 rfl rfl ?_
                                  refine gST9 rfl rfl ?_
                                  refine gCT9 (st' := fun y221 => [.inl y221.1]) rfl rfl (fun _ hz => rv_recv (ci := 8) (by omega) (rv_X8_isOpen hz)) rfl (ok_X8_isOpen dX hX d (by omega) v204.2.1 y205.2 y7.1 v30.1) (fun z => rfl) (fun y221 => ?_)
                                  refine gBT9 rfl rfl ?_ ?_
                                  · refine gST9 rfl rfl ?_
                                    refine gMkT9 [true, true, true, true, true, true, true, true, true, true, true, true, false, true, true, true, true, true, true, true, true, true, true, true, true] (lv' := [some (.inr (.inr (some (.inr 5)))), none, some (.inl i), some (.inr (.inr (some (.inr 0)))), none, some (.inr (.inr (gTop (gAI s.2 1 8)))), some (.inr (.inr y7.1)), some (.inr (.inr (gTop v9.2.2))), some (.inl s10.2.1), some (.inl s10.2.2.1), some (.inr (.inr y27.1)), none, none, none, none, none, none, none, none, none, some (.inl y198.1), none, some (.inl v204.1), some (.inl (((2 : Int32) * v30.1) + y205.1)), some (.inl v207)]) rfl rfl ?_
                                    have h3 := hk208 ((0 : Int32), (v204.2.1, y221.2))
                                    exact h3
                                  · refine gST9 rfl rfl ?_
                                    refine gST9 rfl rfl ?_
                                    refine gST9 rfl rfl ?_
                                    refine gST9 rfl rfl ?_
                                    refine gCT9 (st' := fun y222 => [.inl y222.1]) rfl rfl (fun _ hz => rv_recv (ci := 8) (by omega) (rv_X8_fits hz)) rfl (ok_X8_fits dX hX d (by omega) v204.2.1 y221.2 y7.1 y198.1 v204.1 (((2 : Int32) * v30.1) + y205.1)) (fun z => rfl) (fun y222 => ?_)
                                    refine gBT9 rfl rfl ?_ ?_
                                    · refine gST9 rfl rfl ?_
                                      refine gMkT9 [true, true, true, true, true, true, true, true, true, true, true, true, false, true, true, true, true, true, true, true, true, true, true, true, true] (lv' := [some (.inr (.inr (some (.inr 5)))), none, some (.inl i), some (.inr (.inr (some (.inr 0)))), none, some (.inr (.inr (gTop (gAI s.2 1 8)))), some (.inr (.inr y7.1)), some (.inr (.inr (gTop v9.2.2))), some (.inl s10.2.1), some (.inl s10.2.2.1), some (.inr (.inr y27.1)), none, none, none, none, none, none, none, none, none, some (.inl y198.1), none, some (.inl v204.1), some (.inl (((2 : Int32) * v30.1) + y205.1)), some (.inl v207)]) rfl rfl ?_
                                      have h3 := hk208 ((0 : Int32), (v204.2.1, y222.2))
                                      exact h3
                                    · refine gST9 rfl rfl ?_
                                      refine gST9 rfl rfl ?_
                                      refine gMkT9 [true, true, true, true, true, true, true, true, true, true, true, true, false, true, true, true, true, true, true, true, true, true, true, true, true] (lv' := [some (.inr (.inr (some (.inr 5)))), none, some (.inl i), some (.inr (.inr (some (.inr 0)))), none, some (.inr (.inr (gTop (gAI s.2 1 8)))), some (.inr (.inr y7.1)), some (.inr (.inr (gTop v9.2.2))), some (.inl s10.2.1), some (.inl s10.2.2.1), some (.inr (.inr y27.1)), none, none, none, none, none, none, none, none, none, some (.inl y198.1), none, some (.inl v204.1), some (.inl (((2 : Int32) * v30.1) + y205.1)), some (.inl v207)]) rfl rfl ?_
                                      have h3 := hk208 ((1 : Int32), (v204.2.1, y222.2))
                                      exact h3
                            · refine gBT9 rfl rfl ?_ ?_
                              · refine gST9 rfl rfl ?_
                                refine gMkT9 [true, true, true, true, true, true, true, true, true, true, true, true, true, false, true, true, true, true, true, true, true, false, true, true, true] (lv' := [some (.inr (.inr (some (.inr 5)))), none, some (.inl i), some (.inr (.inr (some (.inr 0)))), none, some (.inr (.inr (gTop (gAI s.2 1 8)))), some (.inr (.inr y7.1)), some (.inr (.inr (gTop v9.2.2))), some (.inl s10.2.1), some (.inl s10.2.2.1), some (.inr (.inr y27.1)), none, some (.inl v30.1), none, none, none, none, none, none, none, some (.inl y198.1), none, some (.inl v204.1), some (.inl (((2 : Int32) * v30.1) + y205.1)), none]) rfl rfl ?_
                                have h3 := hk206 ((0 : Int32))
                                exact h3
                              · refine gST9 rfl rfl ?_
                                refine gBT9 rfl rfl ?_ ?_
                                · refine gST9 rfl rfl ?_
                                  refine gMkT9 [true, true, true, true, true, true, true, true, true, true, true, true, true, false, true, true, true, true, true, true, true, false, true, true, true] (lv' := [some (.inr (.inr (some (.inr 5)))), none, some (.inl i), some (.inr (.inr (some (.inr 0)))), none, some (.inr (.inr (gTop (gAI s.2 1 8)))), some (.inr (.inr y7.1)), some (.inr (.inr (gTop v9.2.2))), some (.inl s10.2.1), some (.inl s10.2.2.1), some (.inr (.inr y27.1)), none, some (.inl v30.1), none, none, none, none, none, none, none, some (.inl y198.1), none, some (.inl v204.1), some (.inl (((2 : Int32) * v30.1) + y205.1)), none]) rfl rfl ?_
                                  have h3 := hk206 ((0 : Int32))
                                  exact h3
                                · refine gST9 rfl rfl ?_
                                  refine gST9 rfl rfl ?_
                                  refine gOT9 rfl rfl (fun r223 => ?_)
                                  refine gST9 rfl rfl ?_
                                  refine gOT9 rfl rfl (fun r224 => ?_)
                                  refine gOT9 rfl rfl (fun z225 => ?_)
                                  refine gBT9 rfl rfl ?_ ?_
                                  · refine gST9 rfl rfl ?_
                                    refine gMkT9 [true, true, true, true, true, true, true, true, true, true, true, true, true, false, true, true, true, true, true, true, true, false, true, true, true] (lv' := [some (.inr (.inr (some (.inr 5)))), none, some (.inl i), some (.inr (.inr (some (.inr 0)))), none, some (.inr (.inr (gTop (gAI s.2 1 8)))), some (.inr (.inr y7.1)), some (.inr (.inr (gTop v9.2.2))), some (.inl s10.2.1), some (.inl s10.2.2.1), some (.inr (.inr y27.1)), none, some (.inl v30.1), none, none, none, none, none, none, none, some (.inl y198.1), none, some (.inl v204.1), some (.inl (((2 : Int32) * v30.1) + y205.1)), none]) rfl rfl ?_
                                    have h3 := hk206 ((0 : Int32))
                                    exact h3
                                  · refine gST9 rfl rfl ?_
                                    refine gST9 rfl rfl ?_
                                    refine gMkT9 [true, true, true, true, true, true, true, true, true, true, true, true, true, false, true, true, true, true, true, true, true, false, true, true, true] (lv' := [some (.inr (.inr (some (.inr 5)))), none, some (.inl i), some (.inr (.inr (some (.inr 0)))), none, some (.inr (.inr (gTop (gAI s.2 1 8)))), some (.inr (.inr y7.1)), some (.inr (.inr (gTop v9.2.2))), some (.inl s10.2.1), some (.inl s10.2.2.1), some (.inr (.inr y27.1)), none, some (.inl v30.1), none, none, none, none, none, none, none, some (.inl y198.1), none, some (.inl v204.1), some (.inl (((2 : Int32) * v30.1) + y205.1)), none]) rfl rfl ?_
                                    have h3 := hk206 ((1 : Int32))
                                    exact h3
                          · refine gBT9 rfl rfl ?_ ?_
                            · refine gST9 rfl rfl ?_
                              have h3 := hk203 ((0 : Int32), (v36.2.1, y198.2))
                              exact h3
                            · refine gST9 rfl rfl ?_
                              refine gST9 rfl rfl ?_
                              refine gOT9 rfl rfl (fun r226 => ?_)
                              refine gST9 rfl rfl ?_
                              refine gOT9 rfl rfl (fun r227 => ?_)
                              refine gOT9 rfl rfl (fun z228 => ?_)
                              refine gST9 rfl rfl ?_
                              refine gST9 rfl rfl ?_
                              refine gCT9 (st' := fun y229 => [.inl y229.1, .inl z228, .inr (.inr (gTop (gAI s.2 1 8)))]) rfl rfl (fun _ hz => rv_recv (ci := 10) (by omega) (rv_X10_below hz)) rfl (ok_X10_below dX hX d (by omega) v36.2.1 y198.2 (gTop (gAI s.2 1 8)) (14 : Int32)) (fun z => rfl) (fun y229 => ?_)
                              refine gJnT9 880 (fun (v231 : Int32) => [some (.inr (.inr (some (.inr 5)))), none, some (.inl i), some (.inr (.inr (some (.inr 0)))), none, some (.inr (.inr (gTop (gAI s.2 1 8)))), some (.inr (.inr y7.1)), some (.inr (.inr (gTop v9.2.2))), some (.inl s10.2.1), some (.inl s10.2.2.1), some (.inr (.inr y27.1)), none, some (.inl v30.1), some (.inl v34), none, none, none, none, none, none, some (.inl y198.1), some (.inl v202), none, none, none]) (fun (v231 : Int32) => [.inl v231, .inl z228, .inr (.inr (gTop (gAI s.2 1 8)))]) (fun (v231 : Int32) => (v36.2.1, y229.2)) (fun v231 => ?_) (fun k230 hk230 => ?_)
                              · refine gST9 rfl rfl ?_
                                refine gCT9 (st' := fun y232 => [.inl y232.1]) rfl rfl (fun _ hz => rv_recv (ci := 10) (by omega) (rv_X10_below hz)) rfl (ok_X10_below dX hX d (by omega) v36.2.1 y229.2 (gTop (gAI s.2 1 8)) (z228 + v231)) (fun z => rfl) (fun y232 => ?_)
                                refine gST9 rfl rfl ?_
                                have h3 := hk203 (y232.1, (v36.2.1, y232.2))
                                exact h3
                              · refine gBT9 rfl rfl ?_ ?_
                                · refine gST9 rfl rfl ?_
                                  have h3 := hk230 ((1 : Int32))
                                  exact h3
                                · refine gST9 rfl rfl ?_
                                  refine gST9 rfl rfl ?_
                                  have h3 := hk230 ((2 : Int32))
                                  exact h3
                        · refine gBT9 rfl rfl ?_ ?_
                          · refine gST9 rfl rfl ?_
                            refine gMkT9 [true, false, true, true, true, true, true, true, true, true, true, true, true, true, false, false, true, true, true, true, true, true, true, true, true] (lv' := [some (.inr (.inr (some (.inr 5)))), none, some (.inl i), some (.inr (.inr (some (.inr 0)))), none, some (.inr (.inr (gTop (gAI s.2 1 8)))), some (.inr (.inr y7.1)), some (.inr (.inr (gTop v9.2.2))), some (.inl s10.2.1), some (.inl s10.2.2.1), some (.inr (.inr y27.1)), none, some (.inl v30.1), some (.inl v34), none, none, none, none, none, none, some (.inl y198.1), none, none, none, none]) rfl rfl ?_
                            have h3 := hk201 ((0 : Int32))
                            exact h3
                          · refine gST9 rfl rfl ?_
                            refine gST9 rfl rfl ?_
                            refine gMkT9 [true, false, true, true, true, true, true, true, true, true, true, true, true, true, false, false, true, true, true, true, true, true, true, true, true] (lv' := [some (.inr (.inr (some (.inr 5)))), none, some (.inl i), some (.inr (.inr (some (.inr 0)))), none, some (.inr (.inr (gTop (gAI s.2 1 8)))), some (.inr (.inr y7.1)), some (.inr (.inr (gTop v9.2.2))), some (.inl s10.2.1), some (.inl s10.2.2.1), some (.inr (.inr y27.1)), none, some (.inl v30.1), some (.inl v34), none, none, none, none, none, none, some (.inl y198.1), none, none, none, none]) rfl rfl ?_
                            have h3 := hk201 ((1 : Int32))
                            exact h3
                    · refine gBT9 rfl rfl ?_ ?_
                      · refine gST9 rfl rfl ?_
                        have h3 := hk37 ((-2000000097 : Int32))
                        exact h3
                      · refine gST9 rfl rfl ?_
                        refine gST9 rfl rfl ?_
                        have h3 := hk37 ((-2000000099 : Int32))
                        exact h3
                  · refine gBT9 rfl rfl ?_ ?_
                    · refine gST9 rfl rfl ?_
                      have h3 := hk35 (none, (v30.2.1, v30.2.2))
                      exact h3
                    · refine gST9 rfl rfl ?_
                      refine gST9 rfl rfl ?_
                      refine gCT9 (st' := fun y233 => [.inr (.inr y233.1)]) rfl rfl (fun _ hz => rv_recv (ci := 8) (by omega) (rv_X8_where hz)) rfl (ok_X8_where dX hX d (by omega) v30.2.1 v30.2.2 y7.1 v30.1) (fun z => rfl) (fun y233 => ?_)
                      refine gST9 rfl rfl ?_
                      have h3 := hk35 (y233.1, (v30.2.1, y233.2))
                      exact h3
                · refine gBT9 rfl rfl ?_ ?_
                  · refine gST9 rfl rfl ?_
                    have h3 := hk33 ((0 : Int32))
                    exact h3
                  · refine gST9 rfl rfl ?_
                    refine gST9 rfl rfl ?_
                    have h3 := hk33 ((1 : Int32))
                    exact h3
              · refine gBT9 rfl rfl ?_ ?_
                · refine gST9 rfl rfl ?_
                  refine gST9 rfl rfl ?_
                  refine gOT9 rfl rfl (fun r234 => ?_)
                  refine gOT9 rfl rfl (fun z235 => ?_)
                  refine gCT9 (st' := fun y236 => [.inl y236.1]) rfl rfl (fun _ hz => rv_recv (ci := 10) (by omega) (rv_X10_below hz)) rfl (ok_X10_below dX hX d (by omega) s10.2.2.2.1 y28.2 (gTop (gAI s.2 1 8)) z235) (fun z => rfl) (fun y236 => ?_)
                  refine gMkT9 [true, true, true, true, true, true, true, true, true, true, true, false, true, true, true, true, true, true, true, true, true, true, true, true, true] (lv' := [some (.inr (.inr (some (.inr 5)))), some (.inl s10.1), some (.inl i), some (.inr (.inr (some (.inr 0)))), none, some (.inr (.inr (gTop (gAI s.2 1 8)))), some (.inr (.inr y7.1)), some (.inr (.inr (gTop v9.2.2))), some (.inl s10.2.1), some (.inl s10.2.2.1), some (.inr (.inr y27.1)), none, none, none, none, none, none, none, none, none, none, none, none, none, none]) rfl rfl ?_
                  have h3 := hk29 (y236.1, (s10.2.2.2.1, y236.2))
                  exact h3
                · refine gST9 rfl rfl ?_
                  refine gOT9 rfl rfl (fun r237 => ?_)
                  refine gOT9 rfl rfl (fun z238 => ?_)
                  refine gST9 rfl rfl ?_
                  refine gMkT9 [true, true, true, true, true, true, true, true, true, true, true, false, true, true, true, true, true, true, true, true, true, true, true, true, true] (lv' := [some (.inr (.inr (some (.inr 5)))), some (.inl s10.1), some (.inl i), some (.inr (.inr (some (.inr 0)))), none, some (.inr (.inr (gTop (gAI s.2 1 8)))), some (.inr (.inr y7.1)), some (.inr (.inr (gTop v9.2.2))), some (.inl s10.2.1), some (.inl s10.2.2.1), some (.inr (.inr y27.1)), none, none, none, none, none, none, none, none, none, none, none, none, none, none]) rfl rfl ?_
                  have h3 := hk29 (z238, (s10.2.2.2.1, y28.2))
                  exact h3
      · refine gBT9 rfl rfl ?_ ?_
        · refine gST9 rfl rfl ?_
          refine gMkT9 [true, false, true, true, false, true, true, true, true, true, true, true, true, true, true, true, true, true, true, true, true, true, true, true, true] (lv' := [some (.inr (.inr (some (.inr 5)))), none, some (.inl i), some (.inr (.inr (some (.inr 0)))), none, some (.inr (.inr (gTop (gAI s.2 1 8)))), some (.inr (.inr y7.1)), none, none, none, none, none, none, none, none, none, none, none, none, none, none, none, none, none, none]) rfl rfl ?_
          have h3 := hk8 ((0 : Int32), (y7.2.1, y7.2.2))
          exact h3
        · refine gST9 rfl rfl ?_
          refine gST9 rfl rfl ?_
          refine gCT9 (st' := fun y239 => [.inl y239.1]) rfl rfl (fun _ _ => rfl) rfl (ok_L_agrees dX hX d (by omega) (y7.2.1, y7.2.2) y7.1) (fun z => rfl) (fun y239 => ?_)
          refine gBT9 rfl rfl ?_ ?_
          · refine gST9 rfl rfl ?_
            refine gMkT9 [true, false, true, true, false, true, true, true, true, true, true, true, true, true, true, true, true, true, true, true, true, true, true, true, true] (lv' := [some (.inr (.inr (some (.inr 5)))), none, some (.inl i), some (.inr (.inr (some (.inr 0)))), none, some (.inr (.inr (gTop (gAI s.2 1 8)))), some (.inr (.inr y7.1)), none, none, none, none, none, none, none, none, none, none, none, none, none, none, none, none, none, none]) rfl rfl ?_
            have h3 := hk8 ((0 : Int32), (y239.2.1, y239.2.2))
            exact h3
          · refine gST9 rfl rfl ?_
            refine gST9 rfl rfl ?_
            refine gMkT9 [true, false, true, true, false, true, true, true, true, true, true, true, true, true, true, true, true, true, true, true, true, true, true, true, true] (lv' := [some (.inr (.inr (some (.inr 5)))), none, some (.inl i), some (.inr (.inr (some (.inr 0)))), none, some (.inr (.inr (gTop (gAI s.2 1 8)))), some (.inr (.inr y7.1)), none, none, none, none, none, none, none, none, none, none, none, none, none, none, none, none, none, none]) rfl rfl ?_
            have h3 := hk8 ((1 : Int32), (y239.2.1, y239.2.2))
            exact h3
  · refine gBT9 rfl rfl ?_ ?_
    · refine gST9 rfl rfl ?_
      refine gMkT9 [true, false, true, true, true, true, true, true, true, true, true, true, true, true, true, true, true, true, true, true, true, true, true, true, true] (lv' := [some (.inr (.inr (some (.inr 5)))), none, some (.inl i), some (.inr (.inr (some (.inr 0)))), some (.inr (.inr (gTop s.2))), some (.inr (.inr (gTop (gAI s.2 1 8)))), none, none, none, none, none, none, none, none, none, none, none, none, none, none, none, none, none, none, none]) rfl rfl ?_
      have h3 := hk5 ((0 : Int32), (y4.2.1, y4.2.2))
      exact h3
    · refine gST9 rfl rfl ?_
      refine gXtT9 (n := 0) (st' := [.inl (F_X7_errorOffset y4.2.1)]) (s' := (y4.2.1, y4.2.2)) rfl rfl rfl rfl rfl rfl (ok_X7_errorOffset dX (by omega) y4.2.1) rfl rfl ?_
      refine gST9 rfl rfl ?_
      refine gBT9 rfl rfl ?_ ?_
      · refine gST9 rfl rfl ?_
        refine gMkT9 [true, false, true, true, true, true, true, true, true, true, true, true, true, true, true, true, true, true, true, true, true, true, true, true, true] (lv' := [some (.inr (.inr (some (.inr 5)))), none, some (.inl i), some (.inr (.inr (some (.inr 0)))), some (.inr (.inr (gTop s.2))), some (.inr (.inr (gTop (gAI s.2 1 8)))), none, none, none, none, none, none, none, none, none, none, none, none, none, none, none, none, none, none, none]) rfl rfl ?_
        have h3 := hk5 ((0 : Int32), (y4.2.1, y4.2.2))
        exact h3
      · refine gST9 rfl rfl ?_
        refine gXT9 (n := 0) (st' := fun x240 => [.inl x240.1]) (s' := fun x240 => (x240.2, y4.2.2)) rfl rfl rfl rfl rfl rfl (ok_X7_undo dX (by omega) y4.2.1) (fun z => rfl) (fun z => rfl) (fun x240 => ?_)
        refine gST9 rfl rfl ?_
        refine gBT9 rfl rfl ?_ ?_
        · refine gST9 rfl rfl ?_
          refine gMkT9 [true, false, true, true, true, true, true, true, true, true, true, true, true, true, true, true, true, true, true, true, true, true, true, true, true] (lv' := [some (.inr (.inr (some (.inr 5)))), none, some (.inl i), some (.inr (.inr (some (.inr 0)))), some (.inr (.inr (gTop s.2))), some (.inr (.inr (gTop (gAI s.2 1 8)))), none, none, none, none, none, none, none, none, none, none, none, none, none, none, none, none, none, none, none]) rfl rfl ?_
          have h3 := hk5 ((0 : Int32), (x240.2, y4.2.2))
          exact h3
        · refine gST9 rfl rfl ?_
          refine gST9 rfl rfl ?_
          refine gXT9 (n := 2) (st' := fun x241 => [.inl x241.1]) (s' := fun x241 => (x241.2, (gBm y4.2.2 2))) rfl rfl rfl rfl rfl rfl (ok_L_openTour dX (by omega) x240.2 (0 : Int32)) (fun z => rfl) (fun z => rfl) (fun x241 => ?_)
          refine gST9 rfl rfl ?_
          refine gBT9 rfl rfl ?_ ?_
          · refine gST9 rfl rfl ?_
            refine gMkT9 [true, false, true, true, true, true, true, true, true, true, true, true, true, true, true, true, true, true, true, true, true, true, true, true, true] (lv' := [some (.inr (.inr (some (.inr 5)))), none, some (.inl i), some (.inr (.inr (some (.inr 0)))), some (.inr (.inr (gTop s.2))), some (.inr (.inr (gTop (gAI s.2 1 8)))), none, none, none, none, none, none, none, none, none, none, none, none, none, none, none, none, none, none, none]) rfl rfl ?_
            have h3 := hk5 ((0 : Int32), (x241.2, (gBm y4.2.2 2)))
            exact h3
          · refine gST9 rfl rfl ?_
            refine gST9 rfl rfl ?_
            refine gST9 rfl rfl ?_
            refine gST9 rfl rfl ?_
            refine gXT9 (n := 5) (st' := fun x242 => [.inl x242.1]) (s' := fun x242 => (x242.2, (gBm (gBm y4.2.2 2) 5))) rfl rfl rfl rfl rfl rfl (ok_L_insert dX (by omega) x241.2 (0 : Int32) (0 : Int32) (0 : Int32)) (fun z => rfl) (fun z => rfl) (fun x242 => ?_)
            refine gST9 rfl rfl ?_
            refine gBT9 rfl rfl ?_ ?_
            · refine gST9 rfl rfl ?_
              refine gMkT9 [true, false, true, true, true, true, true, true, true, true, true, true, true, true, true, true, true, true, true, true, true, true, true, true, true] (lv' := [some (.inr (.inr (some (.inr 5)))), none, some (.inl i), some (.inr (.inr (some (.inr 0)))), some (.inr (.inr (gTop s.2))), some (.inr (.inr (gTop (gAI s.2 1 8)))), none, none, none, none, none, none, none, none, none, none, none, none, none, none, none, none, none, none, none]) rfl rfl ?_
              have h3 := hk5 ((0 : Int32), (x242.2, (gBm (gBm y4.2.2 2) 5)))
              exact h3
            · refine gST9 rfl rfl ?_
              refine gST9 rfl rfl ?_
              refine gXT9 (n := 1) (st' := fun x243 => [.inl x243.1]) (s' := fun x243 => (x243.2, (gBm (gBm (gBm y4.2.2 2) 5) 1))) rfl rfl rfl rfl rfl rfl (ok_L_improve dX (by omega) x242.2 (0 : Int32)) (fun z => rfl) (fun z => rfl) (fun x243 => ?_)
              refine gST9 rfl rfl ?_
              refine gBT9 rfl rfl ?_ ?_
              · refine gST9 rfl rfl ?_
                refine gMkT9 [true, false, true, true, true, true, true, true, true, true, true, true, true, true, true, true, true, true, true, true, true, true, true, true, true] (lv' := [some (.inr (.inr (some (.inr 5)))), none, some (.inl i), some (.inr (.inr (some (.inr 0)))), some (.inr (.inr (gTop s.2))), some (.inr (.inr (gTop (gAI s.2 1 8)))), none, none, none, none, none, none, none, none, none, none, none, none, none, none, none, none, none, none, none]) rfl rfl ?_
                have h3 := hk5 ((0 : Int32), (x243.2, (gBm (gBm (gBm y4.2.2 2) 5) 1)))
                exact h3
              · refine gST9 rfl rfl ?_
                refine gXT9 (n := 0) (st' := fun x244 => [.inl x244]) (s' := fun x244 => (x243.2, (gBm (gBm (gBm y4.2.2 2) 5) 1))) rfl rfl rfl rfl rfl rfl (ok_X7_matching dX (by omega) x243.2) (fun z => rfl) (fun z => rfl) (fun x244 => ?_)
                refine gBT9 rfl rfl ?_ ?_
                · refine gST9 rfl rfl ?_
                  refine gMkT9 [true, false, true, true, true, true, true, true, true, true, true, true, true, true, true, true, true, true, true, true, true, true, true, true, true] (lv' := [some (.inr (.inr (some (.inr 5)))), none, some (.inl i), some (.inr (.inr (some (.inr 0)))), some (.inr (.inr (gTop s.2))), some (.inr (.inr (gTop (gAI s.2 1 8)))), none, none, none, none, none, none, none, none, none, none, none, none, none, none, none, none, none, none, none]) rfl rfl ?_
                  have h3 := hk5 ((0 : Int32), (x243.2, (gBm (gBm (gBm y4.2.2 2) 5) 1)))
                  exact h3
                · refine gST9 rfl rfl ?_
                  refine gST9 rfl rfl ?_
                  refine gMkT9 [true, false, true, true, true, true, true, true, true, true, true, true, true, true, true, true, true, true, true, true, true, true, true, true, true] (lv' := [some (.inr (.inr (some (.inr 5)))), none, some (.inl i), some (.inr (.inr (some (.inr 0)))), some (.inr (.inr (gTop s.2))), some (.inr (.inr (gTop (gAI s.2 1 8)))), none, none, none, none, none, none, none, none, none, none, none, none, none, none, none, none, none, none, none]) rfl rfl ?_
                  have h3 := hk5 ((1 : Int32), (x243.2, (gBm (gBm (gBm y4.2.2 2) 5) 1)))
                  exact h3
