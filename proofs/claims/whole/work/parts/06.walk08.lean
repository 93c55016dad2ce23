def f_X12_bookLine (N : Nat)  (s0 : St) : Option (Int32 × St) :=
  vl (s0.1 206 40) fun v1 =>
  vl ((nI 3) * v1) fun v2 =>
  bp (f_X12_isWord (431366697829 : Int64) s0) fun v3 =>
  jn (fun (v4 : Int32) =>
    if 0 ≤ v4 then
      vl (s0.1 206 40) fun v6 =>
      if v6 = (nI 40) then
        bd (f_X12_bad (nI 4) s0) fun v7 s8 =>
        rz v7 <|
        some (v7, s8)
      else
      bp (f_X12_next N s0) fun s9 =>
      ald (fun j => sI s9 210 j v4) 135 v2 fun s10 =>
      if v4 ≤ (nI 4) then
        jn (fun (v11 : Int32) (s12 : St) =>
          vl (s12.1 206 18) fun v14 =>
          ald (fun j => sI s12 210 j v14) 135 (v2 + (nI 1)) fun s15 =>
          if v11 = 0 then
            rz v11 <|
            some (v11, s15)
          else
          if (nI 2) ≤ v4 then
            jn (fun (v16 : Int32) (s17 : St) =>
              vl (s17.1 206 18) fun v19 =>
              ald (fun j => sI s17 210 j v19) 135 (v2 + (nI 2)) fun s20 =>
              rz v16 <|
              some (v16, s20)) fun j18 =>
            if v4 = (nI 2) then
              bd (f_X12_takes N (nI 1) (nI 999) s15) fun v21 s22 =>
              j18 v21 s22
            else
            if v4 = (nI 3) then
              bd (f_X12_takes N (nI 1) (nI 59) s15) fun v23 s24 =>
              j18 v23 s24
            else
            bd (f_X12_takes N (nI 0) (nI 8) s15) fun v25 s26 =>
            j18 v25 s26
          else
          rz v11 <|
          some (v11, s15)) fun j13 =>
        if v4 = (nI 4) then
          ald (s10.1 208) 359 (nI 1) fun v27 =>
          bd (f_X12_takesName N (nI 8) v27 s10) fun v28 s29 =>
          j13 v28 s29
        else
        ald (s10.1 208) 359 (nI 0) fun v30 =>
        bd (f_X12_takesName N (nI 0) v30 s10) fun v31 s32 =>
        j13 v31 s32
      else
      jn (fun (v33 : Int32) =>
        bd (f_X12_takes N (nI 1) v33 s10) fun v35 s36 =>
        if v35 = 0 then
          some ((nI 0), s36)
        else
        vl (s36.1 206 18) fun v37 =>
        ald (fun j => sI s36 210 j v37) 135 (v2 + (nI 1)) fun s38 =>
        some ((nI 1), s38)) fun j34 =>
      if v4 = (nI 5) then
        j34 (nI 30)
      else
      j34 (nI 60)
    else
    bd (f_X12_bad (nI 1) s0) fun v39 s40 =>
    rz v39 <|
    some (v39, s40)) fun j5 =>
  if v3 = 0 then
    bp (f_X12_isWord (118100567813221 : Int64) s0) fun v41 =>
    if v41 = 0 then
      bp (f_X12_isWord (1718185068 : Int64) s0) fun v42 =>
      if v42 = 0 then
        bp (f_X12_isWord (495672977012 : Int64) s0) fun v43 =>
        if v43 = 0 then
          bp (f_X12_isWord (495874041202 : Int64) s0) fun v44 =>
          if v44 = 0 then
            bp (f_X12_isWord (1751218789 : Int64) s0) fun v45 =>
            if v45 = 0 then
              bp (f_X12_isWord (126879297138276 : Int64) s0) fun v46 =>
              if v46 = 0 then
                j5 (-1)
              else
              j5 (nI 6)
            else
            j5 (nI 5)
          else
          j5 (nI 4)
        else
        j5 (nI 3)
      else
      j5 (nI 2)
    else
    j5 (nI 1)
  else
  j5 (nI 0)

theorem qX12_bookLine_0 : Dc mX12_bookLine 0 (.iconst 3) 1 1 := ⟨by decide +kernel, rfl⟩
theorem qX12_bookLine_1 : Dc mX12_bookLine 1 (.aload_n 0) 1 2 := ⟨by decide +kernel, rfl⟩
theorem qX12_bookLine_2 : Dc mX12_bookLine 2 (.getfield 436) 3 5 := ⟨by decide +kernel, rfl⟩
theorem qX12_bookLine_5 : Dc mX12_bookLine 5 (.imul) 1 6 := ⟨by decide +kernel, rfl⟩
theorem qX12_bookLine_6 : Dc mX12_bookLine 6 (.istore_n 1) 1 7 := ⟨by decide +kernel, rfl⟩
theorem qX12_bookLine_7 : Dc mX12_bookLine 7 (.aload_n 0) 1 8 := ⟨by decide +kernel, rfl⟩
theorem qX12_bookLine_8 : Dc mX12_bookLine 8 (.ldc2_w 105) 3 11 := ⟨by decide +kernel, rfl⟩
theorem qX12_bookLine_11 : Dc mX12_bookLine 11 (.invokevirtual 208) 3 14 := ⟨by decide +kernel, rfl⟩
theorem qX12_bookLine_14 : Dc mX12_bookLine 14 (.ifCond .eq 7) 3 17 := ⟨by decide +kernel, rfl⟩
theorem qX12_bookLine_17 : Dc mX12_bookLine 17 (.iconst 0) 1 18 := ⟨by decide +kernel, rfl⟩
theorem qX12_bookLine_18 : Dc mX12_bookLine 18 (.goto 89) 3 21 := ⟨by decide +kernel, rfl⟩
theorem qX12_bookLine_21 : Dc mX12_bookLine 21 (.aload_n 0) 1 22 := ⟨by decide +kernel, rfl⟩
theorem qX12_bookLine_22 : Dc mX12_bookLine 22 (.ldc2_w 107) 3 25 := ⟨by decide +kernel, rfl⟩
theorem qX12_bookLine_25 : Dc mX12_bookLine 25 (.invokevirtual 208) 3 28 := ⟨by decide +kernel, rfl⟩
theorem qX12_bookLine_28 : Dc mX12_bookLine 28 (.ifCond .eq 7) 3 31 := ⟨by decide +kernel, rfl⟩
theorem qX12_bookLine_31 : Dc mX12_bookLine 31 (.iconst 1) 1 32 := ⟨by decide +kernel, rfl⟩
theorem qX12_bookLine_32 : Dc mX12_bookLine 32 (.goto 75) 3 35 := ⟨by decide +kernel, rfl⟩
theorem qX12_bookLine_35 : Dc mX12_bookLine 35 (.aload_n 0) 1 36 := ⟨by decide +kernel, rfl⟩
theorem qX12_bookLine_36 : Dc mX12_bookLine 36 (.ldc2_w 109) 3 39 := ⟨by decide +kernel, rfl⟩
theorem qX12_bookLine_39 : Dc mX12_bookLine 39 (.invokevirtual 208) 3 42 := ⟨by decide +kernel, rfl⟩
theorem qX12_bookLine_42 : Dc mX12_bookLine 42 (.ifCond .eq 7) 3 45 := ⟨by decide +kernel, rfl⟩
theorem qX12_bookLine_45 : Dc mX12_bookLine 45 (.iconst 2) 1 46 := ⟨by decide +kernel, rfl⟩
theorem qX12_bookLine_46 : Dc mX12_bookLine 46 (.goto 61) 3 49 := ⟨by decide +kernel, rfl⟩
theorem qX12_bookLine_49 : Dc mX12_bookLine 49 (.aload_n 0) 1 50 := ⟨by decide +kernel, rfl⟩
theorem qX12_bookLine_50 : Dc mX12_bookLine 50 (.ldc2_w 111) 3 53 := ⟨by decide +kernel, rfl⟩
theorem qX12_bookLine_53 : Dc mX12_bookLine 53 (.invokevirtual 208) 3 56 := ⟨by decide +kernel, rfl⟩
theorem qX12_bookLine_56 : Dc mX12_bookLine 56 (.ifCond .eq 7) 3 59 := ⟨by decide +kernel, rfl⟩
theorem qX12_bookLine_59 : Dc mX12_bookLine 59 (.iconst 3) 1 60 := ⟨by decide +kernel, rfl⟩
theorem qX12_bookLine_60 : Dc mX12_bookLine 60 (.goto 47) 3 63 := ⟨by decide +kernel, rfl⟩
theorem qX12_bookLine_63 : Dc mX12_bookLine 63 (.aload_n 0) 1 64 := ⟨by decide +kernel, rfl⟩
theorem qX12_bookLine_64 : Dc mX12_bookLine 64 (.ldc2_w 113) 3 67 := ⟨by decide +kernel, rfl⟩
theorem qX12_bookLine_67 : Dc mX12_bookLine 67 (.invokevirtual 208) 3 70 := ⟨by decide +kernel, rfl⟩
theorem qX12_bookLine_70 : Dc mX12_bookLine 70 (.ifCond .eq 7) 3 73 := ⟨by decide +kernel, rfl⟩
theorem qX12_bookLine_73 : Dc mX12_bookLine 73 (.iconst 4) 1 74 := ⟨by decide +kernel, rfl⟩
theorem qX12_bookLine_74 : Dc mX12_bookLine 74 (.goto 33) 3 77 := ⟨by decide +kernel, rfl⟩
theorem qX12_bookLine_77 : Dc mX12_bookLine 77 (.aload_n 0) 1 78 := ⟨by decide +kernel, rfl⟩
theorem qX12_bookLine_78 : Dc mX12_bookLine 78 (.ldc2_w 97) 3 81 := ⟨by decide +kernel, rfl⟩
theorem qX12_bookLine_81 : Dc mX12_bookLine 81 (.invokevirtual 208) 3 84 := ⟨by decide +kernel, rfl⟩
theorem qX12_bookLine_84 : Dc mX12_bookLine 84 (.ifCond .eq 7) 3 87 := ⟨by decide +kernel, rfl⟩
theorem qX12_bookLine_87 : Dc mX12_bookLine 87 (.iconst 5) 1 88 := ⟨by decide +kernel, rfl⟩
theorem qX12_bookLine_88 : Dc mX12_bookLine 88 (.goto 19) 3 91 := ⟨by decide +kernel, rfl⟩
theorem qX12_bookLine_91 : Dc mX12_bookLine 91 (.aload_n 0) 1 92 := ⟨by decide +kernel, rfl⟩
theorem qX12_bookLine_92 : Dc mX12_bookLine 92 (.ldc2_w 115) 3 95 := ⟨by decide +kernel, rfl⟩
theorem qX12_bookLine_95 : Dc mX12_bookLine 95 (.invokevirtual 208) 3 98 := ⟨by decide +kernel, rfl⟩
theorem qX12_bookLine_98 : Dc mX12_bookLine 98 (.ifCond .eq 8) 3 101 := ⟨by decide +kernel, rfl⟩
theorem qX12_bookLine_101 : Dc mX12_bookLine 101 (.bipush 6) 2 103 := ⟨by decide +kernel, rfl⟩
theorem qX12_bookLine_103 : Dc mX12_bookLine 103 (.goto 4) 3 106 := ⟨by decide +kernel, rfl⟩
theorem qX12_bookLine_106 : Dc mX12_bookLine 106 (.iconst (-1)) 1 107 := ⟨by decide +kernel, rfl⟩
theorem qX12_bookLine_107 : Dc mX12_bookLine 107 (.istore_n 2) 1 108 := ⟨by decide +kernel, rfl⟩
theorem qX12_bookLine_108 : Dc mX12_bookLine 108 (.iload_n 2) 1 109 := ⟨by decide +kernel, rfl⟩
theorem qX12_bookLine_109 : Dc mX12_bookLine 109 (.ifCond .ge 9) 3 112 := ⟨by decide +kernel, rfl⟩
theorem qX12_bookLine_112 : Dc mX12_bookLine 112 (.aload_n 0) 1 113 := ⟨by decide +kernel, rfl⟩
theorem qX12_bookLine_113 : Dc mX12_bookLine 113 (.iconst 1) 1 114 := ⟨by decide +kernel, rfl⟩
theorem qX12_bookLine_114 : Dc mX12_bookLine 114 (.invokevirtual 180) 3 117 := ⟨by decide +kernel, rfl⟩
theorem qX12_bookLine_117 : Dc mX12_bookLine 117 (.ireturn) 1 118 := ⟨by decide +kernel, rfl⟩
theorem qX12_bookLine_118 : Dc mX12_bookLine 118 (.aload_n 0) 1 119 := ⟨by decide +kernel, rfl⟩
theorem qX12_bookLine_119 : Dc mX12_bookLine 119 (.getfield 436) 3 122 := ⟨by decide +kernel, rfl⟩
theorem qX12_bookLine_122 : Dc mX12_bookLine 122 (.bipush 40) 2 124 := ⟨by decide +kernel, rfl⟩
theorem qX12_bookLine_124 : Dc mX12_bookLine 124 (.if_icmp .ne 9) 3 127 := ⟨by decide +kernel, rfl⟩
theorem qX12_bookLine_127 : Dc mX12_bookLine 127 (.aload_n 0) 1 128 := ⟨by decide +kernel, rfl⟩
theorem qX12_bookLine_128 : Dc mX12_bookLine 128 (.iconst 4) 1 129 := ⟨by decide +kernel, rfl⟩
theorem qX12_bookLine_129 : Dc mX12_bookLine 129 (.invokevirtual 180) 3 132 := ⟨by decide +kernel, rfl⟩
theorem qX12_bookLine_132 : Dc mX12_bookLine 132 (.ireturn) 1 133 := ⟨by decide +kernel, rfl⟩
theorem qX12_bookLine_133 : Dc mX12_bookLine 133 (.aload_n 0) 1 134 := ⟨by decide +kernel, rfl⟩
theorem qX12_bookLine_134 : Dc mX12_bookLine 134 (.invokevirtual 183) 3 137 := ⟨by decide +kernel, rfl⟩
theorem qX12_bookLine_137 : Dc mX12_bookLine 137 (.aload_n 0) 1 138 := ⟨by decide +kernel, rfl⟩
theorem qX12_bookLine_138 : Dc mX12_bookLine 138 (.getfield 40) 3 141 := ⟨by decide +kernel, rfl⟩
theorem qX12_bookLine_141 : Dc mX12_bookLine 141 (.iload_n 1) 1 142 := ⟨by decide +kernel, rfl⟩
theorem qX12_bookLine_142 : Dc mX12_bookLine 142 (.iload_n 2) 1 143 := ⟨by decide +kernel, rfl⟩
theorem qX12_bookLine_143 : Dc mX12_bookLine 143 (.iastore) 1 144 := ⟨by decide +kernel, rfl⟩
theorem qX12_bookLine_144 : Dc mX12_bookLine 144 (.iload_n 2) 1 145 := ⟨by decide +kernel, rfl⟩
theorem qX12_bookLine_145 : Dc mX12_bookLine 145 (.iconst 4) 1 146 := ⟨by decide +kernel, rfl⟩
theorem qX12_bookLine_146 : Dc mX12_bookLine 146 (.if_icmp .le 39) 3 149 := ⟨by decide +kernel, rfl⟩
theorem qX12_bookLine_149 : Dc mX12_bookLine 149 (.aload_n 0) 1 150 := ⟨by decide +kernel, rfl⟩
theorem qX12_bookLine_150 : Dc mX12_bookLine 150 (.iconst 1) 1 151 := ⟨by decide +kernel, rfl⟩
theorem qX12_bookLine_151 : Dc mX12_bookLine 151 (.iload_n 2) 1 152 := ⟨by decide +kernel, rfl⟩
theorem qX12_bookLine_152 : Dc mX12_bookLine 152 (.iconst 5) 1 153 := ⟨by decide +kernel, rfl⟩
theorem qX12_bookLine_153 : Dc mX12_bookLine 153 (.if_icmp .ne 8) 3 156 := ⟨by decide +kernel, rfl⟩
theorem qX12_bookLine_156 : Dc mX12_bookLine 156 (.bipush 30) 2 158 := ⟨by decide +kernel, rfl⟩
theorem qX12_bookLine_158 : Dc mX12_bookLine 158 (.goto 5) 3 161 := ⟨by decide +kernel, rfl⟩
theorem qX12_bookLine_161 : Dc mX12_bookLine 161 (.bipush 60) 2 163 := ⟨by decide +kernel, rfl⟩
theorem qX12_bookLine_163 : Dc mX12_bookLine 163 (.invokevirtual 193) 3 166 := ⟨by decide +kernel, rfl⟩
theorem qX12_bookLine_166 : Dc mX12_bookLine 166 (.ifCond .ne 5) 3 169 := ⟨by decide +kernel, rfl⟩
theorem qX12_bookLine_169 : Dc mX12_bookLine 169 (.iconst 0) 1 170 := ⟨by decide +kernel, rfl⟩
theorem qX12_bookLine_170 : Dc mX12_bookLine 170 (.ireturn) 1 171 := ⟨by decide +kernel, rfl⟩
theorem qX12_bookLine_171 : Dc mX12_bookLine 171 (.aload_n 0) 1 172 := ⟨by decide +kernel, rfl⟩
theorem qX12_bookLine_172 : Dc mX12_bookLine 172 (.getfield 40) 3 175 := ⟨by decide +kernel, rfl⟩
theorem qX12_bookLine_175 : Dc mX12_bookLine 175 (.iload_n 1) 1 176 := ⟨by decide +kernel, rfl⟩
theorem qX12_bookLine_176 : Dc mX12_bookLine 176 (.iconst 1) 1 177 := ⟨by decide +kernel, rfl⟩
theorem qX12_bookLine_177 : Dc mX12_bookLine 177 (.iadd) 1 178 := ⟨by decide +kernel, rfl⟩
theorem qX12_bookLine_178 : Dc mX12_bookLine 178 (.aload_n 0) 1 179 := ⟨by decide +kernel, rfl⟩
theorem qX12_bookLine_179 : Dc mX12_bookLine 179 (.getfield 190) 3 182 := ⟨by decide +kernel, rfl⟩
theorem qX12_bookLine_182 : Dc mX12_bookLine 182 (.iastore) 1 183 := ⟨by decide +kernel, rfl⟩
theorem qX12_bookLine_183 : Dc mX12_bookLine 183 (.iconst 1) 1 184 := ⟨by decide +kernel, rfl⟩
theorem qX12_bookLine_184 : Dc mX12_bookLine 184 (.ireturn) 1 185 := ⟨by decide +kernel, rfl⟩
theorem qX12_bookLine_185 : Dc mX12_bookLine 185 (.iload_n 2) 1 186 := ⟨by decide +kernel, rfl⟩
theorem qX12_bookLine_186 : Dc mX12_bookLine 186 (.iconst 4) 1 187 := ⟨by decide +kernel, rfl⟩
theorem qX12_bookLine_187 : Dc mX12_bookLine 187 (.if_icmp .ne 18) 3 190 := ⟨by decide +kernel, rfl⟩
theorem qX12_bookLine_190 : Dc mX12_bookLine 190 (.aload_n 0) 1 191 := ⟨by decide +kernel, rfl⟩
theorem qX12_bookLine_191 : Dc mX12_bookLine 191 (.bipush 8) 2 193 := ⟨by decide +kernel, rfl⟩
theorem qX12_bookLine_193 : Dc mX12_bookLine 193 (.aload_n 0) 1 194 := ⟨by decide +kernel, rfl⟩
theorem qX12_bookLine_194 : Dc mX12_bookLine 194 (.getfield 33) 3 197 := ⟨by decide +kernel, rfl⟩
theorem qX12_bookLine_197 : Dc mX12_bookLine 197 (.iconst 1) 1 198 := ⟨by decide +kernel, rfl⟩
theorem qX12_bookLine_198 : Dc mX12_bookLine 198 (.iaload) 1 199 := ⟨by decide +kernel, rfl⟩
theorem qX12_bookLine_199 : Dc mX12_bookLine 199 (.invokevirtual 243) 3 202 := ⟨by decide +kernel, rfl⟩
theorem qX12_bookLine_202 : Dc mX12_bookLine 202 (.goto 14) 3 205 := ⟨by decide +kernel, rfl⟩
theorem qX12_bookLine_205 : Dc mX12_bookLine 205 (.aload_n 0) 1 206 := ⟨by decide +kernel, rfl⟩
theorem qX12_bookLine_206 : Dc mX12_bookLine 206 (.iconst 0) 1 207 := ⟨by decide +kernel, rfl⟩
theorem qX12_bookLine_207 : Dc mX12_bookLine 207 (.aload_n 0) 1 208 := ⟨by decide +kernel, rfl⟩
theorem qX12_bookLine_208 : Dc mX12_bookLine 208 (.getfield 33) 3 211 := ⟨by decide +kernel, rfl⟩
theorem qX12_bookLine_211 : Dc mX12_bookLine 211 (.iconst 0) 1 212 := ⟨by decide +kernel, rfl⟩
theorem qX12_bookLine_212 : Dc mX12_bookLine 212 (.iaload) 1 213 := ⟨by decide +kernel, rfl⟩
theorem qX12_bookLine_213 : Dc mX12_bookLine 213 (.invokevirtual 243) 3 216 := ⟨by decide +kernel, rfl⟩
theorem qX12_bookLine_216 : Dc mX12_bookLine 216 (.istore_n 3) 1 217 := ⟨by decide +kernel, rfl⟩
theorem qX12_bookLine_217 : Dc mX12_bookLine 217 (.aload_n 0) 1 218 := ⟨by decide +kernel, rfl⟩
theorem qX12_bookLine_218 : Dc mX12_bookLine 218 (.getfield 40) 3 221 := ⟨by decide +kernel, rfl⟩
theorem qX12_bookLine_221 : Dc mX12_bookLine 221 (.iload_n 1) 1 222 := ⟨by decide +kernel, rfl⟩
theorem qX12_bookLine_222 : Dc mX12_bookLine 222 (.iconst 1) 1 223 := ⟨by decide +kernel, rfl⟩
theorem qX12_bookLine_223 : Dc mX12_bookLine 223 (.iadd) 1 224 := ⟨by decide +kernel, rfl⟩
theorem qX12_bookLine_224 : Dc mX12_bookLine 224 (.aload_n 0) 1 225 := ⟨by decide +kernel, rfl⟩
theorem qX12_bookLine_225 : Dc mX12_bookLine 225 (.getfield 190) 3 228 := ⟨by decide +kernel, rfl⟩
theorem qX12_bookLine_228 : Dc mX12_bookLine 228 (.iastore) 1 229 := ⟨by decide +kernel, rfl⟩
theorem qX12_bookLine_229 : Dc mX12_bookLine 229 (.iload_n 3) 1 230 := ⟨by decide +kernel, rfl⟩
theorem qX12_bookLine_230 : Dc mX12_bookLine 230 (.ifCond .eq 8) 3 233 := ⟨by decide +kernel, rfl⟩
theorem qX12_bookLine_233 : Dc mX12_bookLine 233 (.iload_n 2) 1 234 := ⟨by decide +kernel, rfl⟩
theorem qX12_bookLine_234 : Dc mX12_bookLine 234 (.iconst 2) 1 235 := ⟨by decide +kernel, rfl⟩
theorem qX12_bookLine_235 : Dc mX12_bookLine 235 (.if_icmp .ge 5) 3 238 := ⟨by decide +kernel, rfl⟩
theorem qX12_bookLine_238 : Dc mX12_bookLine 238 (.iload_n 3) 1 239 := ⟨by decide +kernel, rfl⟩
theorem qX12_bookLine_239 : Dc mX12_bookLine 239 (.ireturn) 1 240 := ⟨by decide +kernel, rfl⟩
theorem qX12_bookLine_240 : Dc mX12_bookLine 240 (.iload_n 2) 1 241 := ⟨by decide +kernel, rfl⟩
theorem qX12_bookLine_241 : Dc mX12_bookLine 241 (.iconst 2) 1 242 := ⟨by decide +kernel, rfl⟩
theorem qX12_bookLine_242 : Dc mX12_bookLine 242 (.if_icmp .ne 14) 3 245 := ⟨by decide +kernel, rfl⟩
theorem qX12_bookLine_245 : Dc mX12_bookLine 245 (.aload_n 0) 1 246 := ⟨by decide +kernel, rfl⟩
theorem qX12_bookLine_246 : Dc mX12_bookLine 246 (.iconst 1) 1 247 := ⟨by decide +kernel, rfl⟩
theorem qX12_bookLine_247 : Dc mX12_bookLine 247 (.sipush 999) 3 250 := ⟨by decide +kernel, rfl⟩
theorem qX12_bookLine_250 : Dc mX12_bookLine 250 (.invokevirtual 193) 3 253 := ⟨by decide +kernel, rfl⟩
theorem qX12_bookLine_253 : Dc mX12_bookLine 253 (.goto 25) 3 256 := ⟨by decide +kernel, rfl⟩
theorem qX12_bookLine_256 : Dc mX12_bookLine 256 (.iload_n 2) 1 257 := ⟨by decide +kernel, rfl⟩
theorem qX12_bookLine_257 : Dc mX12_bookLine 257 (.iconst 3) 1 258 := ⟨by decide +kernel, rfl⟩
theorem qX12_bookLine_258 : Dc mX12_bookLine 258 (.if_icmp .ne 13) 3 261 := ⟨by decide +kernel, rfl⟩
theorem qX12_bookLine_261 : Dc mX12_bookLine 261 (.aload_n 0) 1 262 := ⟨by decide +kernel, rfl⟩
theorem qX12_bookLine_262 : Dc mX12_bookLine 262 (.iconst 1) 1 263 := ⟨by decide +kernel, rfl⟩
theorem qX12_bookLine_263 : Dc mX12_bookLine 263 (.bipush 59) 2 265 := ⟨by decide +kernel, rfl⟩
theorem qX12_bookLine_265 : Dc mX12_bookLine 265 (.invokevirtual 193) 3 268 := ⟨by decide +kernel, rfl⟩
theorem qX12_bookLine_268 : Dc mX12_bookLine 268 (.goto 10) 3 271 := ⟨by decide +kernel, rfl⟩
theorem qX12_bookLine_271 : Dc mX12_bookLine 271 (.aload_n 0) 1 272 := ⟨by decide +kernel, rfl⟩
theorem qX12_bookLine_272 : Dc mX12_bookLine 272 (.iconst 0) 1 273 := ⟨by decide +kernel, rfl⟩
theorem qX12_bookLine_273 : Dc mX12_bookLine 273 (.bipush 8) 2 275 := ⟨by decide +kernel, rfl⟩
theorem qX12_bookLine_275 : Dc mX12_bookLine 275 (.invokevirtual 193) 3 278 := ⟨by decide +kernel, rfl⟩
theorem qX12_bookLine_278 : Dc mX12_bookLine 278 (.istore_n 3) 1 279 := ⟨by decide +kernel, rfl⟩
theorem qX12_bookLine_279 : Dc mX12_bookLine 279 (.aload_n 0) 1 280 := ⟨by decide +kernel, rfl⟩
theorem qX12_bookLine_280 : Dc mX12_bookLine 280 (.getfield 40) 3 283 := ⟨by decide +kernel, rfl⟩
theorem qX12_bookLine_283 : Dc mX12_bookLine 283 (.iload_n 1) 1 284 := ⟨by decide +kernel, rfl⟩
theorem qX12_bookLine_284 : Dc mX12_bookLine 284 (.iconst 2) 1 285 := ⟨by decide +kernel, rfl⟩
theorem qX12_bookLine_285 : Dc mX12_bookLine 285 (.iadd) 1 286 := ⟨by decide +kernel, rfl⟩
theorem qX12_bookLine_286 : Dc mX12_bookLine 286 (.aload_n 0) 1 287 := ⟨by decide +kernel, rfl⟩
theorem qX12_bookLine_287 : Dc mX12_bookLine 287 (.getfield 190) 3 290 := ⟨by decide +kernel, rfl⟩
theorem qX12_bookLine_290 : Dc mX12_bookLine 290 (.iastore) 1 291 := ⟨by decide +kernel, rfl⟩
theorem qX12_bookLine_291 : Dc mX12_bookLine 291 (.iload_n 3) 1 292 := ⟨by decide +kernel, rfl⟩
theorem qX12_bookLine_292 : Dc mX12_bookLine 292 (.ireturn) 1 293 := ⟨by decide +kernel, rfl⟩

set_option maxRecDepth 20000 in
set_option maxHeartbeats 4000000 in
theorem w_X12_bookLine {N : Nat}  {s0 : St} {r : Int32} {sr : St} (h : f_X12_bookLine N  s0 = some (r, sr)) : Ct mX12_bookLine 3 [.ref 206] s0 (some (.int r), sr) := by
  refine Ct.ofE (by decide +kernel) rfl ?_
  show E mX12_bookLine 3 (some (.int r), sr) 0 [some (.ref 206), none, none, none] [] s0
  unfold f_X12_bookLine at h
  refine e_iconst (nI 3) qX12_bookLine_0 rfl ?_
  refine e_aload_n qX12_bookLine_1 rfl ?_
  refine e_geti qX12_bookLine_2 fl_X12_436 shq_206 kdq_11_40 h (fun v1 h => ?_)
  refine e_imul qX12_bookLine_5 ?_
  refine vl_e h (fun h => ?_)
  generalize ((nI 3) * v1) = v2 at h ⊢
  refine e_istore_n (lv2 := [some (.ref 206), some (.int v2), none, none]) qX12_bookLine_6 rfl rfl rfl ?_
  refine e_aload_n qX12_bookLine_7 rfl ?_
  refine e_ldc2 (431366697829 : Int64) qX12_bookLine_8 cw_X12_105 ?_
  obtain ⟨v3, hc, h⟩ := bp_e h
  refine e_cVi1 qX12_bookLine_11 mv_X12_208 shq_206 rfl rfl (w_X12_isWord hc) ?_
  refine jn_e (fun j => ∀ (v4 : Int32), j v4 = some (r, sr) → E mX12_bookLine 3 (some (.int r), sr) 107 [some (.ref 206), some (.int v2), none, none] [.int v4] s0) h ?_ (fun j5 hj5 h => ?_)
  · intro v4 h
    refine e_istore_n (lv2 := [some (.ref 206), some (.int v2), some (.int v4), none]) qX12_bookLine_107 rfl rfl rfl ?_
    refine e_iload_n qX12_bookLine_108 rfl ?_
    refine e_if_ge (tgt := 118) qX12_bookLine_109 rfl h (fun _ h => ?_) (fun _ h => ?_)
    · refine e_aload_n qX12_bookLine_118 rfl ?_
      refine e_geti qX12_bookLine_119 fl_X12_436 shq_206 kdq_11_40 h (fun v6 h => ?_)
      refine e_bipush (nI 40) qX12_bookLine_122 rfl ?_
      refine e_icmp_ne (tgt := 133) qX12_bookLine_124 rfl h (fun _ h => ?_) (fun _ h => ?_)
      · refine e_aload_n qX12_bookLine_127 rfl ?_
        refine e_iconst (nI 4) qX12_bookLine_128 rfl ?_
        obtain ⟨v7, s8, hc, h⟩ := bd_e h
        refine e_cVi1 qX12_bookLine_129 mv_X12_180 shq_206 rfl rfl (w_X12_bad hc) ?_
        refine rz_e h (fun hz h => ?_)
        exact e_zret qX12_bookLine_132 rfl hz (ret_i h)
      refine e_aload_n qX12_bookLine_133 rfl ?_
      obtain ⟨s9, hc, h⟩ := bp_e h
      refine e_cVv0 qX12_bookLine_134 mv_X12_183 shq_206 rfl rfl (w_X12_next hc) ?_
      refine e_aload_n qX12_bookLine_137 rfl ?_
      refine e_getr 210 qX12_bookLine_138 fl_X12_40 shq_206 kdq_11_8 rrq_206_8 ?_
      refine e_iload_n qX12_bookLine_141 rfl ?_
      refine e_iload_n qX12_bookLine_142 rfl ?_
      refine e_iast qX12_bookLine_143 shq_210 lnq_210 h (fun s10 h => ?_)
      refine e_iload_n qX12_bookLine_144 rfl ?_
      refine e_iconst (nI 4) qX12_bookLine_145 rfl ?_
      refine e_icmp_le (tgt := 185) qX12_bookLine_146 rfl h (fun _ h => ?_) (fun _ h => ?_)
      · refine e_iload_n qX12_bookLine_185 rfl ?_
        refine e_iconst (nI 4) qX12_bookLine_186 rfl ?_
        refine jn_e (fun j => ∀ (v11 : Int32) (s12 : St), j v11 s12 = some (r, sr) → E mX12_bookLine 3 (some (.int r), sr) 216 [some (.ref 206), some (.int v2), some (.int v4), none] [.int v11] s12) h ?_ (fun j13 hj13 h => ?_)
        · intro v11 s12 h
          refine e_istore_n (lv2 := [some (.ref 206), some (.int v2), some (.int v4), some (.int v11)]) qX12_bookLine_216 rfl rfl rfl ?_
          refine e_aload_n qX12_bookLine_217 rfl ?_
          refine e_getr 210 qX12_bookLine_218 fl_X12_40 shq_206 kdq_11_8 rrq_206_8 ?_
          refine e_iload_n qX12_bookLine_221 rfl ?_
          refine e_iconst (nI 1) qX12_bookLine_222 rfl ?_
          refine e_iadd qX12_bookLine_223 ?_
          refine e_aload_n qX12_bookLine_224 rfl ?_
          refine e_geti qX12_bookLine_225 fl_X12_190 shq_206 kdq_11_18 h (fun v14 h => ?_)
          refine e_iast qX12_bookLine_228 shq_210 lnq_210 h (fun s15 h => ?_)
          refine e_iload_n qX12_bookLine_229 rfl ?_
          refine e_if_eq (tgt := 238) qX12_bookLine_230 rfl h (fun _ h => ?_) (fun _ h => ?_)
          · refine e_iload_n qX12_bookLine_238 rfl ?_
            refine rz_e h (fun hz h => ?_)
            exact e_zret qX12_bookLine_239 rfl hz (ret_i h)
          refine e_iload_n qX12_bookLine_233 rfl ?_
          refine e_iconst (nI 2) qX12_bookLine_234 rfl ?_
          refine e_icmp_ge (tgt := 240) qX12_bookLine_235 rfl h (fun _ h => ?_) (fun _ h => ?_)
          · refine e_iload_n qX12_bookLine_240 rfl ?_
            refine e_iconst (nI 2) qX12_bookLine_241 rfl ?_
            refine jn_e (fun j => ∀ (v16 : Int32) (s17 : St), j v16 s17 = some (r, sr) → E mX12_bookLine 3 (some (.int r), sr) 278 [some (.ref 206), some (.int v2), none, none] [.int v16] s17) h ?_ (fun j18 hj18 h => ?_)
            · intro v16 s17 h
              refine e_istore_n (lv2 := [some (.ref 206), some (.int v2), none, some (.int v16)]) qX12_bookLine_278 rfl rfl rfl ?_
              refine e_aload_n qX12_bookLine_279 rfl ?_
              refine e_getr 210 qX12_bookLine_280 fl_X12_40 shq_206 kdq_11_8 rrq_206_8 ?_
              refine e_iload_n qX12_bookLine_283 rfl ?_
              refine e_iconst (nI 2) qX12_bookLine_284 rfl ?_
              refine e_iadd qX12_bookLine_285 ?_
              refine e_aload_n qX12_bookLine_286 rfl ?_
              refine e_geti qX12_bookLine_287 fl_X12_190 shq_206 kdq_11_18 h (fun v19 h => ?_)
              refine e_iast qX12_bookLine_290 shq_210 lnq_210 h (fun s20 h => ?_)
              refine e_iload_n qX12_bookLine_291 rfl ?_
              refine rz_e h (fun hz h => ?_)
              exact e_zret qX12_bookLine_292 rfl hz (ret_i h)
            refine e_icmp_ne (tgt := 256) qX12_bookLine_242 rfl h (fun _ h => ?_) (fun _ h => ?_)
            · refine e_aload_n qX12_bookLine_245 rfl ?_
              refine e_iconst (nI 1) qX12_bookLine_246 rfl ?_
              refine e_sipush (nI 999) qX12_bookLine_247 rfl ?_
              obtain ⟨v21, s22, hc, h⟩ := bd_e h
              refine e_cVi2 qX12_bookLine_250 mv_X12_193 shq_206 rfl rfl (w_X12_takes hc) ?_
              refine e_goto (tgt := 278) qX12_bookLine_253 rfl ?_
              exact e_weak (hj18 _ _ h) ⟨Or.inr rfl, Or.inr rfl, Or.inl rfl, Or.inl rfl, trivial⟩
            refine e_iload_n qX12_bookLine_256 rfl ?_
            refine e_iconst (nI 3) qX12_bookLine_257 rfl ?_
            refine e_icmp_ne (tgt := 271) qX12_bookLine_258 rfl h (fun _ h => ?_) (fun _ h => ?_)
            · refine e_aload_n qX12_bookLine_261 rfl ?_
              refine e_iconst (nI 1) qX12_bookLine_262 rfl ?_
              refine e_bipush (nI 59) qX12_bookLine_263 rfl ?_
              obtain ⟨v23, s24, hc, h⟩ := bd_e h
              refine e_cVi2 qX12_bookLine_265 mv_X12_193 shq_206 rfl rfl (w_X12_takes hc) ?_
              refine e_goto (tgt := 278) qX12_bookLine_268 rfl ?_
              exact e_weak (hj18 _ _ h) ⟨Or.inr rfl, Or.inr rfl, Or.inl rfl, Or.inl rfl, trivial⟩
            refine e_aload_n qX12_bookLine_271 rfl ?_
            refine e_iconst (nI 0) qX12_bookLine_272 rfl ?_
            refine e_bipush (nI 8) qX12_bookLine_273 rfl ?_
            obtain ⟨v25, s26, hc, h⟩ := bd_e h
            refine e_cVi2 qX12_bookLine_275 mv_X12_193 shq_206 rfl rfl (w_X12_takes hc) ?_
            exact e_weak (hj18 _ _ h) ⟨Or.inr rfl, Or.inr rfl, Or.inl rfl, Or.inl rfl, trivial⟩
          refine e_iload_n qX12_bookLine_238 rfl ?_
          refine rz_e h (fun hz h => ?_)
          exact e_zret qX12_bookLine_239 rfl hz (ret_i h)
        refine e_icmp_ne (tgt := 205) qX12_bookLine_187 rfl h (fun _ h => ?_) (fun _ h => ?_)
        · refine e_aload_n qX12_bookLine_190 rfl ?_
          refine e_bipush (nI 8) qX12_bookLine_191 rfl ?_
          refine e_aload_n qX12_bookLine_193 rfl ?_
          refine e_getr 208 qX12_bookLine_194 fl_X12_33 shq_206 kdq_11_6 rrq_206_6 ?_
          refine e_iconst (nI 1) qX12_bookLine_197 rfl ?_
          refine e_iald qX12_bookLine_198 shq_208 lnq_208 h (fun v27 h => ?_)
          obtain ⟨v28, s29, hc, h⟩ := bd_e h
          refine e_cVi2 qX12_bookLine_199 mv_X12_243 shq_206 rfl rfl (w_X12_takesName hc) ?_
          refine e_goto (tgt := 216) qX12_bookLine_202 rfl ?_
          exact e_weak (hj13 _ _ h) ⟨Or.inr rfl, Or.inr rfl, Or.inr rfl, Or.inl rfl, trivial⟩
        refine e_aload_n qX12_bookLine_205 rfl ?_
        refine e_iconst (nI 0) qX12_bookLine_206 rfl ?_
        refine e_aload_n qX12_bookLine_207 rfl ?_
        refine e_getr 208 qX12_bookLine_208 fl_X12_33 shq_206 kdq_11_6 rrq_206_6 ?_
        refine e_iconst (nI 0) qX12_bookLine_211 rfl ?_
        refine e_iald qX12_bookLine_212 shq_208 lnq_208 h (fun v30 h => ?_)
        obtain ⟨v31, s32, hc, h⟩ := bd_e h
        refine e_cVi2 qX12_bookLine_213 mv_X12_243 shq_206 rfl rfl (w_X12_takesName hc) ?_
        exact e_weak (hj13 _ _ h) ⟨Or.inr rfl, Or.inr rfl, Or.inr rfl, Or.inl rfl, trivial⟩
      refine e_aload_n qX12_bookLine_149 rfl ?_
      refine e_iconst (nI 1) qX12_bookLine_150 rfl ?_
      refine e_iload_n qX12_bookLine_151 rfl ?_
      refine e_iconst (nI 5) qX12_bookLine_152 rfl ?_
      refine jn_e (fun j => ∀ (v33 : Int32), j v33 = some (r, sr) → E mX12_bookLine 3 (some (.int r), sr) 163 [some (.ref 206), some (.int v2), none, none] [.int v33, .int (nI 1), .ref 206] s10) h ?_ (fun j34 hj34 h => ?_)
      · intro v33 h
        obtain ⟨v35, s36, hc, h⟩ := bd_e h
        refine e_cVi2 qX12_bookLine_163 mv_X12_193 shq_206 rfl rfl (w_X12_takes hc) ?_
        refine e_if_ne (tgt := 171) qX12_bookLine_166 rfl h (fun _ h => ?_) (fun _ h => ?_)
        · refine e_iconst (nI 0) qX12_bookLine_169 rfl ?_
          exact e_zret qX12_bookLine_170 rfl (by decide) (ret_i h)
        refine e_aload_n qX12_bookLine_171 rfl ?_
        refine e_getr 210 qX12_bookLine_172 fl_X12_40 shq_206 kdq_11_8 rrq_206_8 ?_
        refine e_iload_n qX12_bookLine_175 rfl ?_
        refine e_iconst (nI 1) qX12_bookLine_176 rfl ?_
        refine e_iadd qX12_bookLine_177 ?_
        refine e_aload_n qX12_bookLine_178 rfl ?_
        refine e_geti qX12_bookLine_179 fl_X12_190 shq_206 kdq_11_18 h (fun v37 h => ?_)
        refine e_iast qX12_bookLine_182 shq_210 lnq_210 h (fun s38 h => ?_)
        refine e_iconst (nI 1) qX12_bookLine_183 rfl ?_
        exact e_zret qX12_bookLine_184 rfl (by decide) (ret_i h)
      refine e_icmp_ne (tgt := 161) qX12_bookLine_153 rfl h (fun _ h => ?_) (fun _ h => ?_)
      · refine e_bipush (nI 30) qX12_bookLine_156 rfl ?_
        refine e_goto (tgt := 163) qX12_bookLine_158 rfl ?_
        exact e_weak (hj34 _ h) ⟨Or.inr rfl, Or.inr rfl, Or.inl rfl, Or.inl rfl, trivial⟩
      refine e_bipush (nI 60) qX12_bookLine_161 rfl ?_
      exact e_weak (hj34 _ h) ⟨Or.inr rfl, Or.inr rfl, Or.inl rfl, Or.inl rfl, trivial⟩
    refine e_aload_n qX12_bookLine_112 rfl ?_
    refine e_iconst (nI 1) qX12_bookLine_113 rfl ?_
    obtain ⟨v39, s40, hc, h⟩ := bd_e h
    refine e_cVi1 qX12_bookLine_114 mv_X12_180 shq_206 rfl rfl (w_X12_bad hc) ?_
    refine rz_e h (fun hz h => ?_)
    exact e_zret qX12_bookLine_117 rfl hz (ret_i h)
  refine e_if_eq (tgt := 21) qX12_bookLine_14 rfl h (fun _ h => ?_) (fun _ h => ?_)
  · refine e_aload_n qX12_bookLine_21 rfl ?_
    refine e_ldc2 (118100567813221 : Int64) qX12_bookLine_22 cw_X12_107 ?_
    obtain ⟨v41, hc, h⟩ := bp_e h
    refine e_cVi1 qX12_bookLine_25 mv_X12_208 shq_206 rfl rfl (w_X12_isWord hc) ?_
    refine e_if_eq (tgt := 35) qX12_bookLine_28 rfl h (fun _ h => ?_) (fun _ h => ?_)
    · refine e_aload_n qX12_bookLine_35 rfl ?_
      refine e_ldc2 (1718185068 : Int64) qX12_bookLine_36 cw_X12_109 ?_
      obtain ⟨v42, hc, h⟩ := bp_e h
      refine e_cVi1 qX12_bookLine_39 mv_X12_208 shq_206 rfl rfl (w_X12_isWord hc) ?_
      refine e_if_eq (tgt := 49) qX12_bookLine_42 rfl h (fun _ h => ?_) (fun _ h => ?_)
      · refine e_aload_n qX12_bookLine_49 rfl ?_
        refine e_ldc2 (495672977012 : Int64) qX12_bookLine_50 cw_X12_111 ?_
        obtain ⟨v43, hc, h⟩ := bp_e h
        refine e_cVi1 qX12_bookLine_53 mv_X12_208 shq_206 rfl rfl (w_X12_isWord hc) ?_
        refine e_if_eq (tgt := 63) qX12_bookLine_56 rfl h (fun _ h => ?_) (fun _ h => ?_)
        · refine e_aload_n qX12_bookLine_63 rfl ?_
          refine e_ldc2 (495874041202 : Int64) qX12_bookLine_64 cw_X12_113 ?_
          obtain ⟨v44, hc, h⟩ := bp_e h
          refine e_cVi1 qX12_bookLine_67 mv_X12_208 shq_206 rfl rfl (w_X12_isWord hc) ?_
          refine e_if_eq (tgt := 77) qX12_bookLine_70 rfl h (fun _ h => ?_) (fun _ h => ?_)
          · refine e_aload_n qX12_bookLine_77 rfl ?_
            refine e_ldc2 (1751218789 : Int64) qX12_bookLine_78 cw_X12_97 ?_
            obtain ⟨v45, hc, h⟩ := bp_e h
            refine e_cVi1 qX12_bookLine_81 mv_X12_208 shq_206 rfl rfl (w_X12_isWord hc) ?_
            refine e_if_eq (tgt := 91) qX12_bookLine_84 rfl h (fun _ h => ?_) (fun _ h => ?_)
            · refine e_aload_n qX12_bookLine_91 rfl ?_
              refine e_ldc2 (126879297138276 : Int64) qX12_bookLine_92 cw_X12_115 ?_
              obtain ⟨v46, hc, h⟩ := bp_e h
              refine e_cVi1 qX12_bookLine_95 mv_X12_208 shq_206 rfl rfl (w_X12_isWord hc) ?_
              refine e_if_eq (tgt := 106) qX12_bookLine_98 rfl h (fun _ h => ?_) (fun _ h => ?_)
              · refine e_iconst (-1) qX12_bookLine_106 rfl ?_
                exact e_weak (hj5 _ h) ⟨Or.inr rfl, Or.inr rfl, Or.inl rfl, Or.inl rfl, trivial⟩
              refine e_bipush (nI 6) qX12_bookLine_101 rfl ?_
              refine e_goto (tgt := 107) qX12_bookLine_103 rfl ?_
              exact e_weak (hj5 _ h) ⟨Or.inr rfl, Or.inr rfl, Or.inl rfl, Or.inl rfl, trivial⟩
            refine e_iconst (nI 5) qX12_bookLine_87 rfl ?_
            refine e_goto (tgt := 107) qX12_bookLine_88 rfl ?_
            exact e_weak (hj5 _ h) ⟨Or.inr rfl, Or.inr rfl, Or.inl rfl, Or.inl rfl, trivial⟩
          refine e_iconst (nI 4) qX12_bookLine_73 rfl ?_
          refine e_goto (tgt := 107) qX12_bookLine_74 rfl ?_
          exact e_weak (hj5 _ h) ⟨Or.inr rfl, Or.inr rfl, Or.inl rfl, Or.inl rfl, trivial⟩
        refine e_iconst (nI 3) qX12_bookLine_59 rfl ?_
        refine e_goto (tgt := 107) qX12_bookLine_60 rfl ?_
        exact e_weak (hj5 _ h) ⟨Or.inr rfl, Or.inr rfl, Or.inl rfl, Or.inl rfl, trivial⟩
      refine e_iconst (nI 2) qX12_bookLine_45 rfl ?_
      refine e_goto (tgt := 107) qX12_bookLine_46 rfl ?_
      exact e_weak (hj5 _ h) ⟨Or.inr rfl, Or.inr rfl, Or.inl rfl, Or.inl rfl, trivial⟩
    refine e_iconst (nI 1) qX12_bookLine_31 rfl ?_
    refine e_goto (tgt := 107) qX12_bookLine_32 rfl ?_
    exact e_weak (hj5 _ h) ⟨Or.inr rfl, Or.inr rfl, Or.inl rfl, Or.inl rfl, trivial⟩
  refine e_iconst (nI 0) qX12_bookLine_17 rfl ?_
  refine e_goto (tgt := 107) qX12_bookLine_18 rfl ?_
  exact e_weak (hj5 _ h) ⟨Or.inr rfl, Or.inr rfl, Or.inl rfl, Or.inl rfl, trivial⟩

def f_X12_does (N : Nat) (x1 : Int32) (x2 : Int32) (x3 : Int32) (s0 : St) : Option (Int32 × St) :=
  jn (fun (v1 : Int32) (s2 : St) =>
    if v1 ≤ 0 then
      some ((nI 0), s2)
    else
    some ((v1 + ((nI 10) * x1)), s2)) fun j3 =>
  if x1 = nI 0 then
    ald (s0.1 208) 359 (nI 148) fun v4 =>
    bp (f_X12_bitOf v4 x2 s0) fun v5 =>
    jn (fun (v6 : Int32) =>
      ald (s0.1 208) 359 (nI 148) fun v8 =>
      ald (fun j => sI s0 208 j (v8 ||| ((nI 1) <<< (x2 &&& 31)))) 359 (nI 148) fun s9 =>
      j3 v6 s9) fun j7 =>
    if v5 = 0 then
      j7 (nI 0)
    else
    j7 (nI 1)
  else
  if x1 = nI 1 then
    bp (f_X12_whyKindle x2 s0) fun v10 =>
    if v10 = 0 then
      ald (s0.1 208) 359 (nI 148) fun v11 =>
      ald (fun j => sI s0 208 j (v11 &&& (((nI 1) <<< (x2 &&& 31)) ^^^ (-1)))) 359 (nI 148) fun s12 =>
      j3 v10 s12
    else
    j3 v10 s0
  else
  if x1 = nI 2 then
    bp (f_X12_whyFill x2 x3 s0) fun v13 =>
    if v13 = 0 then
      ald (s0.1 208) 359 ((nI 150) + x2) fun v14 =>
      ald (fun j => sI s0 208 j (v14 + x3)) 359 ((nI 150) + x2) fun s15 =>
      j3 v13 s15
    else
    j3 v13 s0
  else
  if x1 = nI 3 then
    ald (s0.1 208) 359 ((nI 43) + x2) fun v16 =>
    jn (fun (v17 : Int32) =>
      if v17 = 0 then
        bp (f_X12_turns N x2 x3 s0) fun s19 =>
        j3 v17 s19
      else
      j3 v17 s0) fun j18 =>
    if v16 = 0 then
      j18 (nI 1)
    else
    j18 (nI 0)
  else
  if x1 = nI 4 then
    ald (s0.1 208) 359 ((nI 174) + x2) fun v20 =>
    jn (fun (v21 : Int32) =>
      ald (fun j => sI s0 208 j x3) 359 ((nI 174) + x2) fun s23 =>
      j3 v21 s23) fun j22 =>
    if v20 = x3 then
      j22 (nI 1)
    else
    j22 (nI 0)
  else
  if x1 = nI 5 then
    ald (s0.1 208) 359 (nI 149) fun v24 =>
    jn (fun (v25 : Int32) =>
      ald (fun j => sI s0 208 j x2) 359 (nI 149) fun s27 =>
      j3 v25 s27) fun j26 =>
    if v24 = x2 then
      j26 (nI 1)
    else
    j26 (nI 0)
  else
  ald (s0.1 208) 359 (nI 147) fun v28 =>
  jn (fun (v29 : Int32) =>
    if v29 = 0 then
      bd (f_X12_goesOn N x2 s0) fun v31 s32 =>
      j3 v29 s32
    else
    j3 v29 s0) fun j30 =>
  if (v28 + x2) ≤ (nI 3600) then
    j30 (nI 0)
  else
  j30 (nI 1)

theorem qX12_does_0 : Dc mX12_does 0 (.iconst 0) 1 1 := ⟨by decide +kernel, rfl⟩
theorem qX12_does_1 : Dc mX12_does 1 (.istore 4) 2 3 := ⟨by decide +kernel, rfl⟩
theorem qX12_does_3 : Dc mX12_does 3 (.iload_n 1) 1 4 := ⟨by decide +kernel, rfl⟩
theorem qX12_does_4 : Dc mX12_does 4 (.tableswitch 239 0 5 #[40, 79, 110, 140, 173, 208]) 40 44 := ⟨by decide +kernel, rfl⟩
theorem qX12_does_44 : Dc mX12_does 44 (.aload_n 0) 1 45 := ⟨by decide +kernel, rfl⟩
theorem qX12_does_45 : Dc mX12_does 45 (.getfield 33) 3 48 := ⟨by decide +kernel, rfl⟩
theorem qX12_does_48 : Dc mX12_does 48 (.sipush 148) 3 51 := ⟨by decide +kernel, rfl⟩
theorem qX12_does_51 : Dc mX12_does 51 (.iaload) 1 52 := ⟨by decide +kernel, rfl⟩
theorem qX12_does_52 : Dc mX12_does 52 (.iload_n 2) 1 53 := ⟨by decide +kernel, rfl⟩
theorem qX12_does_53 : Dc mX12_does 53 (.invokestatic 240) 3 56 := ⟨by decide +kernel, rfl⟩
theorem qX12_does_56 : Dc mX12_does 56 (.ifCond .eq 7) 3 59 := ⟨by decide +kernel, rfl⟩
theorem qX12_does_59 : Dc mX12_does 59 (.iconst 1) 1 60 := ⟨by decide +kernel, rfl⟩
theorem qX12_does_60 : Dc mX12_does 60 (.goto 4) 3 63 := ⟨by decide +kernel, rfl⟩
theorem qX12_does_63 : Dc mX12_does 63 (.iconst 0) 1 64 := ⟨by decide +kernel, rfl⟩
theorem qX12_does_64 : Dc mX12_does 64 (.istore 4) 2 66 := ⟨by decide +kernel, rfl⟩
theorem qX12_does_66 : Dc mX12_does 66 (.aload_n 0) 1 67 := ⟨by decide +kernel, rfl⟩
theorem qX12_does_67 : Dc mX12_does 67 (.getfield 33) 3 70 := ⟨by decide +kernel, rfl⟩
theorem qX12_does_70 : Dc mX12_does 70 (.sipush 148) 3 73 := ⟨by decide +kernel, rfl⟩
theorem qX12_does_73 : Dc mX12_does 73 (.dup2) 1 74 := ⟨by decide +kernel, rfl⟩
theorem qX12_does_74 : Dc mX12_does 74 (.iaload) 1 75 := ⟨by decide +kernel, rfl⟩
theorem qX12_does_75 : Dc mX12_does 75 (.iconst 1) 1 76 := ⟨by decide +kernel, rfl⟩
theorem qX12_does_76 : Dc mX12_does 76 (.iload_n 2) 1 77 := ⟨by decide +kernel, rfl⟩
theorem qX12_does_77 : Dc mX12_does 77 (.ishl) 1 78 := ⟨by decide +kernel, rfl⟩
theorem qX12_does_78 : Dc mX12_does 78 (.ior) 1 79 := ⟨by decide +kernel, rfl⟩
theorem qX12_does_79 : Dc mX12_does 79 (.iastore) 1 80 := ⟨by decide +kernel, rfl⟩
theorem qX12_does_80 : Dc mX12_does 80 (.goto 197) 3 83 := ⟨by decide +kernel, rfl⟩
theorem qX12_does_83 : Dc mX12_does 83 (.aload_n 0) 1 84 := ⟨by decide +kernel, rfl⟩
theorem qX12_does_84 : Dc mX12_does 84 (.iload_n 2) 1 85 := ⟨by decide +kernel, rfl⟩
theorem qX12_does_85 : Dc mX12_does 85 (.invokevirtual 328) 3 88 := ⟨by decide +kernel, rfl⟩
theorem qX12_does_88 : Dc mX12_does 88 (.istore 4) 2 90 := ⟨by decide +kernel, rfl⟩
theorem qX12_does_90 : Dc mX12_does 90 (.iload 4) 2 92 := ⟨by decide +kernel, rfl⟩
theorem qX12_does_92 : Dc mX12_does 92 (.ifCond .ne 185) 3 95 := ⟨by decide +kernel, rfl⟩
theorem qX12_does_95 : Dc mX12_does 95 (.aload_n 0) 1 96 := ⟨by decide +kernel, rfl⟩
theorem qX12_does_96 : Dc mX12_does 96 (.getfield 33) 3 99 := ⟨by decide +kernel, rfl⟩
theorem qX12_does_99 : Dc mX12_does 99 (.sipush 148) 3 102 := ⟨by decide +kernel, rfl⟩
theorem qX12_does_102 : Dc mX12_does 102 (.dup2) 1 103 := ⟨by decide +kernel, rfl⟩
theorem qX12_does_103 : Dc mX12_does 103 (.iaload) 1 104 := ⟨by decide +kernel, rfl⟩
theorem qX12_does_104 : Dc mX12_does 104 (.iconst 1) 1 105 := ⟨by decide +kernel, rfl⟩
theorem qX12_does_105 : Dc mX12_does 105 (.iload_n 2) 1 106 := ⟨by decide +kernel, rfl⟩
theorem qX12_does_106 : Dc mX12_does 106 (.ishl) 1 107 := ⟨by decide +kernel, rfl⟩
theorem qX12_does_107 : Dc mX12_does 107 (.iconst (-1)) 1 108 := ⟨by decide +kernel, rfl⟩
theorem qX12_does_108 : Dc mX12_does 108 (.ixor) 1 109 := ⟨by decide +kernel, rfl⟩
theorem qX12_does_109 : Dc mX12_does 109 (.iand) 1 110 := ⟨by decide +kernel, rfl⟩
theorem qX12_does_110 : Dc mX12_does 110 (.iastore) 1 111 := ⟨by decide +kernel, rfl⟩
theorem qX12_does_111 : Dc mX12_does 111 (.goto 166) 3 114 := ⟨by decide +kernel, rfl⟩
theorem qX12_does_114 : Dc mX12_does 114 (.aload_n 0) 1 115 := ⟨by decide +kernel, rfl⟩
theorem qX12_does_115 : Dc mX12_does 115 (.iload_n 2) 1 116 := ⟨by decide +kernel, rfl⟩
theorem qX12_does_116 : Dc mX12_does 116 (.iload_n 3) 1 117 := ⟨by decide +kernel, rfl⟩
theorem qX12_does_117 : Dc mX12_does 117 (.invokevirtual 331) 3 120 := ⟨by decide +kernel, rfl⟩
theorem qX12_does_120 : Dc mX12_does 120 (.istore 4) 2 122 := ⟨by decide +kernel, rfl⟩
theorem qX12_does_122 : Dc mX12_does 122 (.iload 4) 2 124 := ⟨by decide +kernel, rfl⟩
theorem qX12_does_124 : Dc mX12_does 124 (.ifCond .ne 153) 3 127 := ⟨by decide +kernel, rfl⟩
theorem qX12_does_127 : Dc mX12_does 127 (.aload_n 0) 1 128 := ⟨by decide +kernel, rfl⟩
theorem qX12_does_128 : Dc mX12_does 128 (.getfield 33) 3 131 := ⟨by decide +kernel, rfl⟩
theorem qX12_does_131 : Dc mX12_does 131 (.sipush 150) 3 134 := ⟨by decide +kernel, rfl⟩
theorem qX12_does_134 : Dc mX12_does 134 (.iload_n 2) 1 135 := ⟨by decide +kernel, rfl⟩
theorem qX12_does_135 : Dc mX12_does 135 (.iadd) 1 136 := ⟨by decide +kernel, rfl⟩
theorem qX12_does_136 : Dc mX12_does 136 (.dup2) 1 137 := ⟨by decide +kernel, rfl⟩
theorem qX12_does_137 : Dc mX12_does 137 (.iaload) 1 138 := ⟨by decide +kernel, rfl⟩
theorem qX12_does_138 : Dc mX12_does 138 (.iload_n 3) 1 139 := ⟨by decide +kernel, rfl⟩
theorem qX12_does_139 : Dc mX12_does 139 (.iadd) 1 140 := ⟨by decide +kernel, rfl⟩
theorem qX12_does_140 : Dc mX12_does 140 (.iastore) 1 141 := ⟨by decide +kernel, rfl⟩
theorem qX12_does_141 : Dc mX12_does 141 (.goto 136) 3 144 := ⟨by decide +kernel, rfl⟩
theorem qX12_does_144 : Dc mX12_does 144 (.aload_n 0) 1 145 := ⟨by decide +kernel, rfl⟩
theorem qX12_does_145 : Dc mX12_does 145 (.getfield 33) 3 148 := ⟨by decide +kernel, rfl⟩
theorem qX12_does_148 : Dc mX12_does 148 (.bipush 43) 2 150 := ⟨by decide +kernel, rfl⟩
theorem qX12_does_150 : Dc mX12_does 150 (.iload_n 2) 1 151 := ⟨by decide +kernel, rfl⟩
theorem qX12_does_151 : Dc mX12_does 151 (.iadd) 1 152 := ⟨by decide +kernel, rfl⟩
theorem qX12_does_152 : Dc mX12_does 152 (.iaload) 1 153 := ⟨by decide +kernel, rfl⟩
theorem qX12_does_153 : Dc mX12_does 153 (.ifCond .ne 7) 3 156 := ⟨by decide +kernel, rfl⟩
theorem qX12_does_156 : Dc mX12_does 156 (.iconst 1) 1 157 := ⟨by decide +kernel, rfl⟩
theorem qX12_does_157 : Dc mX12_does 157 (.goto 4) 3 160 := ⟨by decide +kernel, rfl⟩
theorem qX12_does_160 : Dc mX12_does 160 (.iconst 0) 1 161 := ⟨by decide +kernel, rfl⟩
theorem qX12_does_161 : Dc mX12_does 161 (.istore 4) 2 163 := ⟨by decide +kernel, rfl⟩
theorem qX12_does_163 : Dc mX12_does 163 (.iload 4) 2 165 := ⟨by decide +kernel, rfl⟩
theorem qX12_does_165 : Dc mX12_does 165 (.ifCond .ne 112) 3 168 := ⟨by decide +kernel, rfl⟩
theorem qX12_does_168 : Dc mX12_does 168 (.aload_n 0) 1 169 := ⟨by decide +kernel, rfl⟩
theorem qX12_does_169 : Dc mX12_does 169 (.iload_n 2) 1 170 := ⟨by decide +kernel, rfl⟩
theorem qX12_does_170 : Dc mX12_does 170 (.iload_n 3) 1 171 := ⟨by decide +kernel, rfl⟩
theorem qX12_does_171 : Dc mX12_does 171 (.invokevirtual 334) 3 174 := ⟨by decide +kernel, rfl⟩
theorem qX12_does_174 : Dc mX12_does 174 (.goto 103) 3 177 := ⟨by decide +kernel, rfl⟩
theorem qX12_does_177 : Dc mX12_does 177 (.aload_n 0) 1 178 := ⟨by decide +kernel, rfl⟩
theorem qX12_does_178 : Dc mX12_does 178 (.getfield 33) 3 181 := ⟨by decide +kernel, rfl⟩
theorem qX12_does_181 : Dc mX12_does 181 (.sipush 174) 3 184 := ⟨by decide +kernel, rfl⟩
theorem qX12_does_184 : Dc mX12_does 184 (.iload_n 2) 1 185 := ⟨by decide +kernel, rfl⟩
theorem qX12_does_185 : Dc mX12_does 185 (.iadd) 1 186 := ⟨by decide +kernel, rfl⟩
theorem qX12_does_186 : Dc mX12_does 186 (.iaload) 1 187 := ⟨by decide +kernel, rfl⟩
theorem qX12_does_187 : Dc mX12_does 187 (.iload_n 3) 1 188 := ⟨by decide +kernel, rfl⟩
theorem qX12_does_188 : Dc mX12_does 188 (.if_icmp .ne 7) 3 191 := ⟨by decide +kernel, rfl⟩
theorem qX12_does_191 : Dc mX12_does 191 (.iconst 1) 1 192 := ⟨by decide +kernel, rfl⟩
theorem qX12_does_192 : Dc mX12_does 192 (.goto 4) 3 195 := ⟨by decide +kernel, rfl⟩
theorem qX12_does_195 : Dc mX12_does 195 (.iconst 0) 1 196 := ⟨by decide +kernel, rfl⟩
theorem qX12_does_196 : Dc mX12_does 196 (.istore 4) 2 198 := ⟨by decide +kernel, rfl⟩
theorem qX12_does_198 : Dc mX12_does 198 (.aload_n 0) 1 199 := ⟨by decide +kernel, rfl⟩
theorem qX12_does_199 : Dc mX12_does 199 (.getfield 33) 3 202 := ⟨by decide +kernel, rfl⟩
theorem qX12_does_202 : Dc mX12_does 202 (.sipush 174) 3 205 := ⟨by decide +kernel, rfl⟩
theorem qX12_does_205 : Dc mX12_does 205 (.iload_n 2) 1 206 := ⟨by decide +kernel, rfl⟩
theorem qX12_does_206 : Dc mX12_does 206 (.iadd) 1 207 := ⟨by decide +kernel, rfl⟩
theorem qX12_does_207 : Dc mX12_does 207 (.iload_n 3) 1 208 := ⟨by decide +kernel, rfl⟩
theorem qX12_does_208 : Dc mX12_does 208 (.iastore) 1 209 := ⟨by decide +kernel, rfl⟩
theorem qX12_does_209 : Dc mX12_does 209 (.goto 68) 3 212 := ⟨by decide +kernel, rfl⟩
theorem qX12_does_212 : Dc mX12_does 212 (.aload_n 0) 1 213 := ⟨by decide +kernel, rfl⟩
theorem qX12_does_213 : Dc mX12_does 213 (.getfield 33) 3 216 := ⟨by decide +kernel, rfl⟩
theorem qX12_does_216 : Dc mX12_does 216 (.sipush 149) 3 219 := ⟨by decide +kernel, rfl⟩
theorem qX12_does_219 : Dc mX12_does 219 (.iaload) 1 220 := ⟨by decide +kernel, rfl⟩
theorem qX12_does_220 : Dc mX12_does 220 (.iload_n 2) 1 221 := ⟨by decide +kernel, rfl⟩
theorem qX12_does_221 : Dc mX12_does 221 (.if_icmp .ne 7) 3 224 := ⟨by decide +kernel, rfl⟩
theorem qX12_does_224 : Dc mX12_does 224 (.iconst 1) 1 225 := ⟨by decide +kernel, rfl⟩
theorem qX12_does_225 : Dc mX12_does 225 (.goto 4) 3 228 := ⟨by decide +kernel, rfl⟩
theorem qX12_does_228 : Dc mX12_does 228 (.iconst 0) 1 229 := ⟨by decide +kernel, rfl⟩
theorem qX12_does_229 : Dc mX12_does 229 (.istore 4) 2 231 := ⟨by decide +kernel, rfl⟩
theorem qX12_does_231 : Dc mX12_does 231 (.aload_n 0) 1 232 := ⟨by decide +kernel, rfl⟩
theorem qX12_does_232 : Dc mX12_does 232 (.getfield 33) 3 235 := ⟨by decide +kernel, rfl⟩
theorem qX12_does_235 : Dc mX12_does 235 (.sipush 149) 3 238 := ⟨by decide +kernel, rfl⟩
theorem qX12_does_238 : Dc mX12_does 238 (.iload_n 2) 1 239 := ⟨by decide +kernel, rfl⟩
theorem qX12_does_239 : Dc mX12_does 239 (.iastore) 1 240 := ⟨by decide +kernel, rfl⟩
theorem qX12_does_240 : Dc mX12_does 240 (.goto 37) 3 243 := ⟨by decide +kernel, rfl⟩
theorem qX12_does_243 : Dc mX12_does 243 (.aload_n 0) 1 244 := ⟨by decide +kernel, rfl⟩
theorem qX12_does_244 : Dc mX12_does 244 (.getfield 33) 3 247 := ⟨by decide +kernel, rfl⟩
theorem qX12_does_247 : Dc mX12_does 247 (.sipush 147) 3 250 := ⟨by decide +kernel, rfl⟩
theorem qX12_does_250 : Dc mX12_does 250 (.iaload) 1 251 := ⟨by decide +kernel, rfl⟩
theorem qX12_does_251 : Dc mX12_does 251 (.iload_n 2) 1 252 := ⟨by decide +kernel, rfl⟩
theorem qX12_does_252 : Dc mX12_does 252 (.iadd) 1 253 := ⟨by decide +kernel, rfl⟩
theorem qX12_does_253 : Dc mX12_does 253 (.sipush 3600) 3 256 := ⟨by decide +kernel, rfl⟩
theorem qX12_does_256 : Dc mX12_does 256 (.if_icmp .le 7) 3 259 := ⟨by decide +kernel, rfl⟩
theorem qX12_does_259 : Dc mX12_does 259 (.iconst 1) 1 260 := ⟨by decide +kernel, rfl⟩
theorem qX12_does_260 : Dc mX12_does 260 (.goto 4) 3 263 := ⟨by decide +kernel, rfl⟩
theorem qX12_does_263 : Dc mX12_does 263 (.iconst 0) 1 264 := ⟨by decide +kernel, rfl⟩
theorem qX12_does_264 : Dc mX12_does 264 (.istore 4) 2 266 := ⟨by decide +kernel, rfl⟩
theorem qX12_does_266 : Dc mX12_does 266 (.iload 4) 2 268 := ⟨by decide +kernel, rfl⟩
theorem qX12_does_268 : Dc mX12_does 268 (.ifCond .ne 9) 3 271 := ⟨by decide +kernel, rfl⟩
theorem qX12_does_271 : Dc mX12_does 271 (.aload_n 0) 1 272 := ⟨by decide +kernel, rfl⟩
theorem qX12_does_272 : Dc mX12_does 272 (.iload_n 2) 1 273 := ⟨by decide +kernel, rfl⟩
theorem qX12_does_273 : Dc mX12_does 273 (.invokevirtual 338) 3 276 := ⟨by decide +kernel, rfl⟩
theorem qX12_does_276 : Dc mX12_does 276 (.pop) 1 277 := ⟨by decide +kernel, rfl⟩
theorem qX12_does_277 : Dc mX12_does 277 (.iload 4) 2 279 := ⟨by decide +kernel, rfl⟩
theorem qX12_does_279 : Dc mX12_does 279 (.ifCond .le 13) 3 282 := ⟨by decide +kernel, rfl⟩
theorem qX12_does_282 : Dc mX12_does 282 (.iload 4) 2 284 := ⟨by decide +kernel, rfl⟩
theorem qX12_does_284 : Dc mX12_does 284 (.bipush 10) 2 286 := ⟨by decide +kernel, rfl⟩
theorem qX12_does_286 : Dc mX12_does 286 (.iload_n 1) 1 287 := ⟨by decide +kernel, rfl⟩
theorem qX12_does_287 : Dc mX12_does 287 (.imul) 1 288 := ⟨by decide +kernel, rfl⟩
theorem qX12_does_288 : Dc mX12_does 288 (.iadd) 1 289 := ⟨by decide +kernel, rfl⟩
theorem qX12_does_289 : Dc mX12_does 289 (.goto 4) 3 292 := ⟨by decide +kernel, rfl⟩
theorem qX12_does_292 : Dc mX12_does 292 (.iconst 0) 1 293 := ⟨by decide +kernel, rfl⟩
theorem qX12_does_293 : Dc mX12_does 293 (.ireturn) 1 294 := ⟨by decide +kernel, rfl⟩

set_option maxRecDepth 20000 in
set_option maxHeartbeats 4000000 in
theorem w_X12_does {N : Nat} {x1 : Int32} {x2 : Int32} {x3 : Int32} {s0 : St} {r : Int32} {sr : St} (h : f_X12_does N x1 x2 x3 s0 = some (r, sr)) : Ct mX12_does 6 [.ref 206, .int x1, .int x2, .int x3] s0 (some (.int r), sr) := by
  refine Ct.ofE (by decide +kernel) rfl ?_
  show E mX12_does 6 (some (.int r), sr) 0 [some (.ref 206), some (.int x1), some (.int x2), some (.int x3), none] [] s0
  unfold f_X12_does at h
  refine e_iconst (nI 0) qX12_does_0 rfl ?_
  refine e_istore (lv2 := [some (.ref 206), some (.int x1), some (.int x2), some (.int x3), some (.int (nI 0))]) qX12_does_1 rfl rfl rfl ?_
  refine e_iload_n qX12_does_3 rfl ?_
  refine jn_e (fun j => ∀ (v1 : Int32) (s2 : St), j v1 s2 = some (r, sr) → E mX12_does 6 (some (.int r), sr) 277 [none, some (.int x1), none, none, some (.int v1)] [] s2) h ?_ (fun j3 hj3 h => ?_)
  · intro v1 s2 h
    refine e_iload qX12_does_277 rfl ?_
    refine e_if_le (tgt := 292) qX12_does_279 rfl h (fun _ h => ?_) (fun _ h => ?_)
    · refine e_iconst (nI 0) qX12_does_292 rfl ?_
      exact e_iret qX12_does_293 rfl (ret_i h)
    refine e_iload qX12_does_282 rfl ?_
    refine e_bipush (nI 10) qX12_does_284 rfl ?_
    refine e_iload_n qX12_does_286 rfl ?_
    refine e_imul qX12_does_287 ?_
    refine e_iadd qX12_does_288 ?_
    refine e_goto (tgt := 293) qX12_does_289 rfl ?_
    exact e_iret qX12_does_293 rfl (ret_i h)
  refine e_ite h (fun hx h => ?_) (fun hx0 h => ?_)
  · refine e_tswk (tgt := 44) qX12_does_4 hx (by decide) (by decide) (by decide) rfl rfl ?_
    refine e_aload_n qX12_does_44 rfl ?_
    refine e_getr 208 qX12_does_45 fl_X12_33 shq_206 kdq_11_6 rrq_206_6 ?_
    refine e_sipush (nI 148) qX12_does_48 rfl ?_
    refine e_iald qX12_does_51 shq_208 lnq_208 h (fun v4 h => ?_)
    refine e_iload_n qX12_does_52 rfl ?_
    obtain ⟨v5, hc, h⟩ := bp_e h
    refine e_cSi2 qX12_does_53 ms_X12_240 rfl rfl (w_X12_bitOf hc) ?_
    refine jn_e (fun j => ∀ (v6 : Int32), j v6 = some (r, sr) → E mX12_does 6 (some (.int r), sr) 64 [some (.ref 206), some (.int x1), some (.int x2), none, none] [.int v6] s0) h ?_ (fun j7 hj7 h => ?_)
    · intro v6 h
      refine e_istore (lv2 := [some (.ref 206), some (.int x1), some (.int x2), none, some (.int v6)]) qX12_does_64 rfl rfl rfl ?_
      refine e_aload_n qX12_does_66 rfl ?_
      refine e_getr 208 qX12_does_67 fl_X12_33 shq_206 kdq_11_6 rrq_206_6 ?_
      refine e_sipush (nI 148) qX12_does_70 rfl ?_
      refine e_dup2 qX12_does_73 rfl rfl ?_
      refine e_iald qX12_does_74 shq_208 lnq_208 h (fun v8 h => ?_)
      refine e_iconst (nI 1) qX12_does_75 rfl ?_
      refine e_iload_n qX12_does_76 rfl ?_
      refine e_ishl qX12_does_77 ?_
      refine e_ior qX12_does_78 ?_
      refine e_iast qX12_does_79 shq_208 lnq_208 h (fun s9 h => ?_)
      refine e_goto (tgt := 277) qX12_does_80 rfl ?_
      exact e_weak (hj3 _ _ h) ⟨Or.inl rfl, Or.inr rfl, Or.inl rfl, Or.inl rfl, Or.inr rfl, trivial⟩
    refine e_if_eq (tgt := 63) qX12_does_56 rfl h (fun _ h => ?_) (fun _ h => ?_)
    · refine e_iconst (nI 0) qX12_does_63 rfl ?_
      exact e_weak (hj7 _ h) ⟨Or.inr rfl, Or.inr rfl, Or.inr rfl, Or.inl rfl, Or.inl rfl, trivial⟩
    refine e_iconst (nI 1) qX12_does_59 rfl ?_
    refine e_goto (tgt := 64) qX12_does_60 rfl ?_
    exact e_weak (hj7 _ h) ⟨Or.inr rfl, Or.inr rfl, Or.inr rfl, Or.inl rfl, Or.inl rfl, trivial⟩
  refine e_ite h (fun hx h => ?_) (fun hx1 h => ?_)
  · refine e_tswk (tgt := 83) qX12_does_4 hx (by decide) (by decide) (by decide) rfl rfl ?_
    refine e_aload_n qX12_does_83 rfl ?_
    refine e_iload_n qX12_does_84 rfl ?_
    obtain ⟨v10, hc, h⟩ := bp_e h
    refine e_cVi1 qX12_does_85 mv_X12_328 shq_206 rfl rfl (w_X12_whyKindle hc) ?_
    refine e_istore (lv2 := [some (.ref 206), some (.int x1), some (.int x2), some (.int x3), some (.int v10)]) qX12_does_88 rfl rfl rfl ?_
    refine e_iload qX12_does_90 rfl ?_
    refine e_if_ne (tgt := 277) qX12_does_92 rfl h (fun _ h => ?_) (fun _ h => ?_)
    · refine e_aload_n qX12_does_95 rfl ?_
      refine e_getr 208 qX12_does_96 fl_X12_33 shq_206 kdq_11_6 rrq_206_6 ?_
      refine e_sipush (nI 148) qX12_does_99 rfl ?_
      refine e_dup2 qX12_does_102 rfl rfl ?_
      refine e_iald qX12_does_103 shq_208 lnq_208 h (fun v11 h => ?_)
      refine e_iconst (nI 1) qX12_does_104 rfl ?_
      refine e_iload_n qX12_does_105 rfl ?_
      refine e_ishl qX12_does_106 ?_
      refine e_iconst (-1) qX12_does_107 rfl ?_
      refine e_ixor qX12_does_108 ?_
      refine e_iand qX12_does_109 ?_
      refine e_iast qX12_does_110 shq_208 lnq_208 h (fun s12 h => ?_)
      refine e_goto (tgt := 277) qX12_does_111 rfl ?_
      exact e_weak (hj3 _ _ h) ⟨Or.inl rfl, Or.inr rfl, Or.inl rfl, Or.inl rfl, Or.inr rfl, trivial⟩
    exact e_weak (hj3 _ _ h) ⟨Or.inl rfl, Or.inr rfl, Or.inl rfl, Or.inl rfl, Or.inr rfl, trivial⟩
  refine e_ite h (fun hx h => ?_) (fun hx2 h => ?_)
  · refine e_tswk (tgt := 114) qX12_does_4 hx (by decide) (by decide) (by decide) rfl rfl ?_
    refine e_aload_n qX12_does_114 rfl ?_
    refine e_iload_n qX12_does_115 rfl ?_
    refine e_iload_n qX12_does_116 rfl ?_
    obtain ⟨v13, hc, h⟩ := bp_e h
    refine e_cVi2 qX12_does_117 mv_X12_331 shq_206 rfl rfl (w_X12_whyFill hc) ?_
    refine e_istore (lv2 := [some (.ref 206), some (.int x1), some (.int x2), some (.int x3), some (.int v13)]) qX12_does_120 rfl rfl rfl ?_
    refine e_iload qX12_does_122 rfl ?_
    refine e_if_ne (tgt := 277) qX12_does_124 rfl h (fun _ h => ?_) (fun _ h => ?_)
    · refine e_aload_n qX12_does_127 rfl ?_
      refine e_getr 208 qX12_does_128 fl_X12_33 shq_206 kdq_11_6 rrq_206_6 ?_
      refine e_sipush (nI 150) qX12_does_131 rfl ?_
      refine e_iload_n qX12_does_134 rfl ?_
      refine e_iadd qX12_does_135 ?_
      refine e_dup2 qX12_does_136 rfl rfl ?_
      refine e_iald qX12_does_137 shq_208 lnq_208 h (fun v14 h => ?_)
      refine e_iload_n qX12_does_138 rfl ?_
      refine e_iadd qX12_does_139 ?_
      refine e_iast qX12_does_140 shq_208 lnq_208 h (fun s15 h => ?_)
      refine e_goto (tgt := 277) qX12_does_141 rfl ?_
      exact e_weak (hj3 _ _ h) ⟨Or.inl rfl, Or.inr rfl, Or.inl rfl, Or.inl rfl, Or.inr rfl, trivial⟩
    exact e_weak (hj3 _ _ h) ⟨Or.inl rfl, Or.inr rfl, Or.inl rfl, Or.inl rfl, Or.inr rfl, trivial⟩
  refine e_ite h (fun hx h => ?_) (fun hx3 h => ?_)
  · refine e_tswk (tgt := 144) qX12_does_4 hx (by decide) (by decide) (by decide) rfl rfl ?_
    refine e_aload_n qX12_does_144 rfl ?_
    refine e_getr 208 qX12_does_145 fl_X12_33 shq_206 kdq_11_6 rrq_206_6 ?_
    refine e_bipush (nI 43) qX12_does_148 rfl ?_
    refine e_iload_n qX12_does_150 rfl ?_
    refine e_iadd qX12_does_151 ?_
    refine e_iald qX12_does_152 shq_208 lnq_208 h (fun v16 h => ?_)
    refine jn_e (fun j => ∀ (v17 : Int32), j v17 = some (r, sr) → E mX12_does 6 (some (.int r), sr) 161 [some (.ref 206), some (.int x1), some (.int x2), some (.int x3), none] [.int v17] s0) h ?_ (fun j18 hj18 h => ?_)
    · intro v17 h
      refine e_istore (lv2 := [some (.ref 206), some (.int x1), some (.int x2), some (.int x3), some (.int v17)]) qX12_does_161 rfl rfl rfl ?_
      refine e_iload qX12_does_163 rfl ?_
      refine e_if_ne (tgt := 277) qX12_does_165 rfl h (fun _ h => ?_) (fun _ h => ?_)
      · refine e_aload_n qX12_does_168 rfl ?_
        refine e_iload_n qX12_does_169 rfl ?_
        refine e_iload_n qX12_does_170 rfl ?_
        obtain ⟨s19, hc, h⟩ := bp_e h
        refine e_cVv2 qX12_does_171 mv_X12_334 shq_206 rfl rfl (w_X12_turns hc) ?_
        refine e_goto (tgt := 277) qX12_does_174 rfl ?_
        exact e_weak (hj3 _ _ h) ⟨Or.inl rfl, Or.inr rfl, Or.inl rfl, Or.inl rfl, Or.inr rfl, trivial⟩
      exact e_weak (hj3 _ _ h) ⟨Or.inl rfl, Or.inr rfl, Or.inl rfl, Or.inl rfl, Or.inr rfl, trivial⟩
    refine e_if_ne (tgt := 160) qX12_does_153 rfl h (fun _ h => ?_) (fun _ h => ?_)
    · refine e_iconst (nI 1) qX12_does_156 rfl ?_
      refine e_goto (tgt := 161) qX12_does_157 rfl ?_
      exact e_weak (hj18 _ h) ⟨Or.inr rfl, Or.inr rfl, Or.inr rfl, Or.inr rfl, Or.inl rfl, trivial⟩
    refine e_iconst (nI 0) qX12_does_160 rfl ?_
    exact e_weak (hj18 _ h) ⟨Or.inr rfl, Or.inr rfl, Or.inr rfl, Or.inr rfl, Or.inl rfl, trivial⟩
  refine e_ite h (fun hx h => ?_) (fun hx4 h => ?_)
  · refine e_tswk (tgt := 177) qX12_does_4 hx (by decide) (by decide) (by decide) rfl rfl ?_
    refine e_aload_n qX12_does_177 rfl ?_
    refine e_getr 208 qX12_does_178 fl_X12_33 shq_206 kdq_11_6 rrq_206_6 ?_
    refine e_sipush (nI 174) qX12_does_181 rfl ?_
    refine e_iload_n qX12_does_184 rfl ?_
    refine e_iadd qX12_does_185 ?_
    refine e_iald qX12_does_186 shq_208 lnq_208 h (fun v20 h => ?_)
    refine e_iload_n qX12_does_187 rfl ?_
    refine jn_e (fun j => ∀ (v21 : Int32), j v21 = some (r, sr) → E mX12_does 6 (some (.int r), sr) 196 [some (.ref 206), some (.int x1), some (.int x2), some (.int x3), none] [.int v21] s0) h ?_ (fun j22 hj22 h => ?_)
    · intro v21 h
      refine e_istore (lv2 := [some (.ref 206), some (.int x1), some (.int x2), some (.int x3), some (.int v21)]) qX12_does_196 rfl rfl rfl ?_
      refine e_aload_n qX12_does_198 rfl ?_
      refine e_getr 208 qX12_does_199 fl_X12_33 shq_206 kdq_11_6 rrq_206_6 ?_
      refine e_sipush (nI 174) qX12_does_202 rfl ?_
      refine e_iload_n qX12_does_205 rfl ?_
      refine e_iadd qX12_does_206 ?_
      refine e_iload_n qX12_does_207 rfl ?_
      refine e_iast qX12_does_208 shq_208 lnq_208 h (fun s23 h => ?_)
      refine e_goto (tgt := 277) qX12_does_209 rfl ?_
      exact e_weak (hj3 _ _ h) ⟨Or.inl rfl, Or.inr rfl, Or.inl rfl, Or.inl rfl, Or.inr rfl, trivial⟩
    refine e_icmp_ne (tgt := 195) qX12_does_188 rfl h (fun _ h => ?_) (fun _ h => ?_)
    · refine e_iconst (nI 1) qX12_does_191 rfl ?_
      refine e_goto (tgt := 196) qX12_does_192 rfl ?_
      exact e_weak (hj22 _ h) ⟨Or.inr rfl, Or.inr rfl, Or.inr rfl, Or.inr rfl, Or.inl rfl, trivial⟩
    refine e_iconst (nI 0) qX12_does_195 rfl ?_
    exact e_weak (hj22 _ h) ⟨Or.inr rfl, Or.inr rfl, Or.inr rfl, Or.inr rfl, Or.inl rfl, trivial⟩
  refine e_ite h (fun hx h => ?_) (fun hx5 h => ?_)
  · refine e_tswk (tgt := 212) qX12_does_4 hx (by decide) (by decide) (by decide) rfl rfl ?_
    refine e_aload_n qX12_does_212 rfl ?_
    refine e_getr 208 qX12_does_213 fl_X12_33 shq_206 kdq_11_6 rrq_206_6 ?_
    refine e_sipush (nI 149) qX12_does_216 rfl ?_
    refine e_iald qX12_does_219 shq_208 lnq_208 h (fun v24 h => ?_)
    refine e_iload_n qX12_does_220 rfl ?_
    refine jn_e (fun j => ∀ (v25 : Int32), j v25 = some (r, sr) → E mX12_does 6 (some (.int r), sr) 229 [some (.ref 206), some (.int x1), some (.int x2), none, none] [.int v25] s0) h ?_ (fun j26 hj26 h => ?_)
    · intro v25 h
      refine e_istore (lv2 := [some (.ref 206), some (.int x1), some (.int x2), none, some (.int v25)]) qX12_does_229 rfl rfl rfl ?_
      refine e_aload_n qX12_does_231 rfl ?_
      refine e_getr 208 qX12_does_232 fl_X12_33 shq_206 kdq_11_6 rrq_206_6 ?_
      refine e_sipush (nI 149) qX12_does_235 rfl ?_
      refine e_iload_n qX12_does_238 rfl ?_
      refine e_iast qX12_does_239 shq_208 lnq_208 h (fun s27 h => ?_)
      refine e_goto (tgt := 277) qX12_does_240 rfl ?_
      exact e_weak (hj3 _ _ h) ⟨Or.inl rfl, Or.inr rfl, Or.inl rfl, Or.inl rfl, Or.inr rfl, trivial⟩
    refine e_icmp_ne (tgt := 228) qX12_does_221 rfl h (fun _ h => ?_) (fun _ h => ?_)
    · refine e_iconst (nI 1) qX12_does_224 rfl ?_
      refine e_goto (tgt := 229) qX12_does_225 rfl ?_
      exact e_weak (hj26 _ h) ⟨Or.inr rfl, Or.inr rfl, Or.inr rfl, Or.inl rfl, Or.inl rfl, trivial⟩
    refine e_iconst (nI 0) qX12_does_228 rfl ?_
    exact e_weak (hj26 _ h) ⟨Or.inr rfl, Or.inr rfl, Or.inr rfl, Or.inl rfl, Or.inl rfl, trivial⟩
  refine e_tswo (tgt := 243) qX12_does_4 (tsw_def (lo := 0) (n := 6) (by decide) (lt_s (lt_s (lt_s (lt_s (lt_s (lt_s lt_0 hx0) hx1) hx2) hx3) hx4) hx5)) rfl ?_
  refine e_aload_n qX12_does_243 rfl ?_
  refine e_getr 208 qX12_does_244 fl_X12_33 shq_206 kdq_11_6 rrq_206_6 ?_
  refine e_sipush (nI 147) qX12_does_247 rfl ?_
  refine e_iald qX12_does_250 shq_208 lnq_208 h (fun v28 h => ?_)
  refine e_iload_n qX12_does_251 rfl ?_
  refine e_iadd qX12_does_252 ?_
  refine e_sipush (nI 3600) qX12_does_253 rfl ?_
  refine jn_e (fun j => ∀ (v29 : Int32), j v29 = some (r, sr) → E mX12_does 6 (some (.int r), sr) 264 [some (.ref 206), some (.int x1), some (.int x2), none, none] [.int v29] s0) h ?_ (fun j30 hj30 h => ?_)
  · intro v29 h
    refine e_istore (lv2 := [some (.ref 206), some (.int x1), some (.int x2), none, some (.int v29)]) qX12_does_264 rfl rfl rfl ?_
    refine e_iload qX12_does_266 rfl ?_
    refine e_if_ne (tgt := 277) qX12_does_268 rfl h (fun _ h => ?_) (fun _ h => ?_)
    · refine e_aload_n qX12_does_271 rfl ?_
      refine e_iload_n qX12_does_272 rfl ?_
      obtain ⟨v31, s32, hc, h⟩ := bd_e h
      refine e_cVi1 qX12_does_273 mv_X12_338 shq_206 rfl rfl (w_X12_goesOn hc) ?_
      refine e_pop qX12_does_276 rfl ?_
      exact e_weak (hj3 _ _ h) ⟨Or.inl rfl, Or.inr rfl, Or.inl rfl, Or.inl rfl, Or.inr rfl, trivial⟩
    exact e_weak (hj3 _ _ h) ⟨Or.inl rfl, Or.inr rfl, Or.inl rfl, Or.inl rfl, Or.inr rfl, trivial⟩
  refine e_icmp_le (tgt := 263) qX12_does_256 rfl h (fun _ h => ?_) (fun _ h => ?_)
  · refine e_iconst (nI 0) qX12_does_263 rfl ?_
    exact e_weak (hj30 _ h) ⟨Or.inr rfl, Or.inr rfl, Or.inr rfl, Or.inl rfl, Or.inl rfl, trivial⟩
  refine e_iconst (nI 1) qX12_does_259 rfl ?_
  refine e_goto (tgt := 264) qX12_does_260 rfl ?_
  exact e_weak (hj30 _ h) ⟨Or.inr rfl, Or.inr rfl, Or.inr rfl, Or.inl rfl, Or.inl rfl, trivial⟩

def f_X12_book_L39 (N : Nat) (c7 : Int32) (k9 : St → Option (Int32 × St)) (k11 : St → Option (Int32 × St)) : Nat → St → Option (Int32 × St)
  | 0, _ => none
  | n13 + 1, s8 =>
    vl (s8.1 206 11) fun v15 =>
    if v15 = 0 then
      k9 s8
    else
    bd (f_X12_bookLine N s8) fun v16 s17 =>
    if v16 = 0 then
      k11 s17
    else
    bd (f_X12_sign N (nI 59) s17) fun v18 s19 =>
    if v18 = 0 then
      k11 s19
    else
    vl (s19.1 206 40) fun v20 =>
    vl (sI s19 206 40 (v20 + (nI 1))) fun s21 =>
    f_X12_book_L39 N c7 k9 k11 n13 s21

def f_X12_book_L89 (N : Nat) (c24 : Int32) (k27 : St → Option (Int32 × St)) : Nat → Int32 → St → Option (Int32 × St)
  | 0, _, _ => none
  | n29 + 1, v25, s26 =>
    if (nI 4) ≤ v25 then
      k27 s26
    else
    ald (fun j => sI s26 219 j (nI 0)) 4 v25 fun s31 =>
    vl (v25 + (nI 1)) fun v32 =>
    f_X12_book_L89 N c24 k27 n29 v32 s31

def f_X12_book_L111 (N : Nat) (c34 : Int32) (k38 : Int32 → St → Option (Int32 × St)) : Nat → Int32 → Int32 → St → Option (Int32 × St)
  | 0, _, _, _ => none
  | n41 + 1, v35, v36, s37 =>
    vl (s37.1 206 40) fun v43 =>
    if v43 ≤ v36 then
      k38 v35 s37
    else
    if 0 ≤ v35 then
      k38 v35 s37
    else
    ald (s37.1 210) 135 ((nI 3) * v36) fun v44 =>
    ald (s37.1 210) 135 (((nI 3) * v36) + (nI 1)) fun v45 =>
    ald (s37.1 210) 135 (((nI 3) * v36) + (nI 2)) fun v46 =>
    bd (f_X12_does N v44 v45 v46 s37) fun v47 s48 =>
    ald (fun j => sI s48 219 j v47) 4 (nI 0) fun s49 =>
    ald (s49.1 219) 4 (nI 0) fun v50 =>
    jn (fun (v51 : Int32) (s52 : St) =>
      vl (v36 + (nI 1)) fun v54 =>
      f_X12_book_L111 N c34 k38 n41 v51 v54 s52) fun j53 =>
    if v50 ≤ 0 then
      ald (s49.1 219) 4 (nI 1) fun v55 =>
      ald (fun j => sI s49 219 j (v55 + (nI 1))) 4 (nI 1) fun s56 =>
      j53 v35 s56
    else
    j53 v36 s49

def f_X12_book_L240 (N : Nat) (c69 : Int32) (c70 : Int32) (k73 : St → Option (Int32 × St)) : Nat → Int32 → St → Option (Int32 × St)
  | 0, _, _ => none
  | n75 + 1, v71, s72 =>
    if (nI 31) ≤ v71 then
      k73 s72
    else
    vl (s72.1 206 24) fun v77 =>
    ald (s72.1 214) 31 v71 fun v78 =>
    ald (fun j => sI s72 213 j v78) 248 (((nI 31) * (v77 - (nI 1))) + v71) fun s79 =>
    vl (v71 + (nI 1)) fun v80 =>
    f_X12_book_L240 N c69 c70 k73 n75 v80 s79

def f_X12_book (N : Nat) (x1 : Int32) (s0 : St) : Option (Int32 × St) :=
  vl (sI s0 206 0 (nI 0)) fun s1 =>
  bp (f_X12_isIn x1 (nI 0) (nI 1) s1) fun v2 =>
  if v2 = 0 then
    some ((-1000), s1)
  else
  bp (f_X12_taken (nI 400) s1) fun s3 =>
  vl (sI s3 206 15 (nI 0)) fun s4 =>
  vl (sI s4 206 40 (nI 0)) fun s5 =>
  bp (f_X12_next N s5) fun s6 =>
  f_X12_book_L39 N x1 (fun (s22 : St) =>
    bp (f_X12_tries N s22) fun s23 =>
    f_X12_book_L89 N x1 (fun (s33 : St) =>
      f_X12_book_L111 N x1 (fun (v57 : Int32) (s58 : St) =>
        ald (s58.1 208) 359 (nI 147) fun v59 =>
        ald (fun j => sI s58 219 j v59) 4 (nI 2) fun s60 =>
        bp (f_X12_oilInAll N s60) fun v61 =>
        ald (fun j => sI s60 219 j v61) 4 (nI 3) fun s62 =>
        vl (sI s62 206 42 (nI 1)) fun s63 =>
        jn (fun (s64 : St) =>
          if x1 = 0 then
            bp (f_X12_back N s64) fun s66 =>
            some (v57, s66)
          else
          some (v57, s64)) fun j65 =>
        if x1 = (nI 1) then
          ald (s63.1 219) 4 (nI 1) fun v67 =>
          if v67 ≤ 0 then
            j65 s63
          else
          bp (f_X12_stores N s63) fun s68 =>
          f_X12_book_L240 N x1 v57 (fun (s81 : St) =>
            j65 s81) N (nI 0) s68
        else
        j65 s63) N (-1) (nI 0) s33) N (nI 0) s23) (fun (s82 : St) =>
    vl (s82.1 206 16) fun v83 =>
    some (((-2) - v83), s82)) N s6

theorem qX12_book_0 : Dc mX12_book 0 (.aload_n 0) 1 1 := ⟨by decide +kernel, rfl⟩
theorem qX12_book_1 : Dc mX12_book 1 (.iconst 0) 1 2 := ⟨by decide +kernel, rfl⟩
theorem qX12_book_2 : Dc mX12_book 2 (.putfield 1) 3 5 := ⟨by decide +kernel, rfl⟩
theorem qX12_book_5 : Dc mX12_book 5 (.iload_n 1) 1 6 := ⟨by decide +kernel, rfl⟩
theorem qX12_book_6 : Dc mX12_book 6 (.iconst 0) 1 7 := ⟨by decide +kernel, rfl⟩
theorem qX12_book_7 : Dc mX12_book 7 (.iconst 1) 1 8 := ⟨by decide +kernel, rfl⟩
theorem qX12_book_8 : Dc mX12_book 8 (.invokestatic 186) 3 11 := ⟨by decide +kernel, rfl⟩
theorem qX12_book_11 : Dc mX12_book 11 (.ifCond .ne 7) 3 14 := ⟨by decide +kernel, rfl⟩
theorem qX12_book_14 : Dc mX12_book 14 (.sipush (-1000)) 3 17 := ⟨by decide +kernel, rfl⟩
theorem qX12_book_17 : Dc mX12_book 17 (.ireturn) 1 18 := ⟨by decide +kernel, rfl⟩
theorem qX12_book_18 : Dc mX12_book 18 (.aload_n 0) 1 19 := ⟨by decide +kernel, rfl⟩
theorem qX12_book_19 : Dc mX12_book 19 (.sipush 400) 3 22 := ⟨by decide +kernel, rfl⟩
theorem qX12_book_22 : Dc mX12_book 22 (.invokevirtual 246) 3 25 := ⟨by decide +kernel, rfl⟩
theorem qX12_book_25 : Dc mX12_book 25 (.aload_n 0) 1 26 := ⟨by decide +kernel, rfl⟩
theorem qX12_book_26 : Dc mX12_book 26 (.iconst 0) 1 27 := ⟨by decide +kernel, rfl⟩
theorem qX12_book_27 : Dc mX12_book 27 (.putfield 171) 3 30 := ⟨by decide +kernel, rfl⟩
theorem qX12_book_30 : Dc mX12_book 30 (.aload_n 0) 1 31 := ⟨by decide +kernel, rfl⟩
theorem qX12_book_31 : Dc mX12_book 31 (.iconst 0) 1 32 := ⟨by decide +kernel, rfl⟩
theorem qX12_book_32 : Dc mX12_book 32 (.putfield 436) 3 35 := ⟨by decide +kernel, rfl⟩
theorem qX12_book_35 : Dc mX12_book 35 (.aload_n 0) 1 36 := ⟨by decide +kernel, rfl⟩
theorem qX12_book_36 : Dc mX12_book 36 (.invokevirtual 183) 3 39 := ⟨by decide +kernel, rfl⟩
theorem qX12_book_39 : Dc mX12_book 39 (.aload_n 0) 1 40 := ⟨by decide +kernel, rfl⟩
theorem qX12_book_40 : Dc mX12_book 40 (.getfield 154) 3 43 := ⟨by decide +kernel, rfl⟩
theorem qX12_book_43 : Dc mX12_book 43 (.ifCond .eq 40) 3 46 := ⟨by decide +kernel, rfl⟩
theorem qX12_book_46 : Dc mX12_book 46 (.aload_n 0) 1 47 := ⟨by decide +kernel, rfl⟩
theorem qX12_book_47 : Dc mX12_book 47 (.invokevirtual 439) 3 50 := ⟨by decide +kernel, rfl⟩
theorem qX12_book_50 : Dc mX12_book 50 (.ifCond .eq 12) 3 53 := ⟨by decide +kernel, rfl⟩
theorem qX12_book_53 : Dc mX12_book 53 (.aload_n 0) 1 54 := ⟨by decide +kernel, rfl⟩
theorem qX12_book_54 : Dc mX12_book 54 (.bipush 59) 2 56 := ⟨by decide +kernel, rfl⟩
theorem qX12_book_56 : Dc mX12_book 56 (.invokevirtual 255) 3 59 := ⟨by decide +kernel, rfl⟩
theorem qX12_book_59 : Dc mX12_book 59 (.ifCond .ne 11) 3 62 := ⟨by decide +kernel, rfl⟩
theorem qX12_book_62 : Dc mX12_book 62 (.bipush (-2)) 2 64 := ⟨by decide +kernel, rfl⟩
theorem qX12_book_64 : Dc mX12_book 64 (.aload_n 0) 1 65 := ⟨by decide +kernel, rfl⟩
theorem qX12_book_65 : Dc mX12_book 65 (.getfield 174) 3 68 := ⟨by decide +kernel, rfl⟩
theorem qX12_book_68 : Dc mX12_book 68 (.isub) 1 69 := ⟨by decide +kernel, rfl⟩
theorem qX12_book_69 : Dc mX12_book 69 (.ireturn) 1 70 := ⟨by decide +kernel, rfl⟩
theorem qX12_book_70 : Dc mX12_book 70 (.aload_n 0) 1 71 := ⟨by decide +kernel, rfl⟩
theorem qX12_book_71 : Dc mX12_book 71 (.dup) 1 72 := ⟨by decide +kernel, rfl⟩
theorem qX12_book_72 : Dc mX12_book 72 (.getfield 436) 3 75 := ⟨by decide +kernel, rfl⟩
theorem qX12_book_75 : Dc mX12_book 75 (.iconst 1) 1 76 := ⟨by decide +kernel, rfl⟩
theorem qX12_book_76 : Dc mX12_book 76 (.iadd) 1 77 := ⟨by decide +kernel, rfl⟩
theorem qX12_book_77 : Dc mX12_book 77 (.putfield 436) 3 80 := ⟨by decide +kernel, rfl⟩
theorem qX12_book_80 : Dc mX12_book 80 (.goto (-41)) 3 83 := ⟨by decide +kernel, rfl⟩
theorem qX12_book_83 : Dc mX12_book 83 (.aload_n 0) 1 84 := ⟨by decide +kernel, rfl⟩
theorem qX12_book_84 : Dc mX12_book 84 (.invokevirtual 395) 3 87 := ⟨by decide +kernel, rfl⟩
theorem qX12_book_87 : Dc mX12_book 87 (.iconst 0) 1 88 := ⟨by decide +kernel, rfl⟩
theorem qX12_book_88 : Dc mX12_book 88 (.istore_n 2) 1 89 := ⟨by decide +kernel, rfl⟩
theorem qX12_book_89 : Dc mX12_book 89 (.iload_n 2) 1 90 := ⟨by decide +kernel, rfl⟩
theorem qX12_book_90 : Dc mX12_book 90 (.iconst 4) 1 91 := ⟨by decide +kernel, rfl⟩
theorem qX12_book_91 : Dc mX12_book 91 (.if_icmp .ge 16) 3 94 := ⟨by decide +kernel, rfl⟩
theorem qX12_book_94 : Dc mX12_book 94 (.aload_n 0) 1 95 := ⟨by decide +kernel, rfl⟩
theorem qX12_book_95 : Dc mX12_book 95 (.getfield 69) 3 98 := ⟨by decide +kernel, rfl⟩
theorem qX12_book_98 : Dc mX12_book 98 (.iload_n 2) 1 99 := ⟨by decide +kernel, rfl⟩
theorem qX12_book_99 : Dc mX12_book 99 (.iconst 0) 1 100 := ⟨by decide +kernel, rfl⟩
theorem qX12_book_100 : Dc mX12_book 100 (.iastore) 1 101 := ⟨by decide +kernel, rfl⟩
theorem qX12_book_101 : Dc mX12_book 101 (.iinc 2 1) 3 104 := ⟨by decide +kernel, rfl⟩
theorem qX12_book_104 : Dc mX12_book 104 (.goto (-15)) 3 107 := ⟨by decide +kernel, rfl⟩
theorem qX12_book_107 : Dc mX12_book 107 (.iconst (-1)) 1 108 := ⟨by decide +kernel, rfl⟩
theorem qX12_book_108 : Dc mX12_book 108 (.istore_n 2) 1 109 := ⟨by decide +kernel, rfl⟩
theorem qX12_book_109 : Dc mX12_book 109 (.iconst 0) 1 110 := ⟨by decide +kernel, rfl⟩
theorem qX12_book_110 : Dc mX12_book 110 (.istore_n 3) 1 111 := ⟨by decide +kernel, rfl⟩
theorem qX12_book_111 : Dc mX12_book 111 (.iload_n 3) 1 112 := ⟨by decide +kernel, rfl⟩
theorem qX12_book_112 : Dc mX12_book 112 (.aload_n 0) 1 113 := ⟨by decide +kernel, rfl⟩
theorem qX12_book_113 : Dc mX12_book 113 (.getfield 436) 3 116 := ⟨by decide +kernel, rfl⟩
theorem qX12_book_116 : Dc mX12_book 116 (.if_icmp .ge 75) 3 119 := ⟨by decide +kernel, rfl⟩
theorem qX12_book_119 : Dc mX12_book 119 (.iload_n 2) 1 120 := ⟨by decide +kernel, rfl⟩
theorem qX12_book_120 : Dc mX12_book 120 (.ifCond .ge 71) 3 123 := ⟨by decide +kernel, rfl⟩
theorem qX12_book_123 : Dc mX12_book 123 (.aload_n 0) 1 124 := ⟨by decide +kernel, rfl⟩
theorem qX12_book_124 : Dc mX12_book 124 (.getfield 69) 3 127 := ⟨by decide +kernel, rfl⟩
theorem qX12_book_127 : Dc mX12_book 127 (.iconst 0) 1 128 := ⟨by decide +kernel, rfl⟩
theorem qX12_book_128 : Dc mX12_book 128 (.aload_n 0) 1 129 := ⟨by decide +kernel, rfl⟩
theorem qX12_book_129 : Dc mX12_book 129 (.aload_n 0) 1 130 := ⟨by decide +kernel, rfl⟩
theorem qX12_book_130 : Dc mX12_book 130 (.getfield 40) 3 133 := ⟨by decide +kernel, rfl⟩
theorem qX12_book_133 : Dc mX12_book 133 (.iconst 3) 1 134 := ⟨by decide +kernel, rfl⟩
theorem qX12_book_134 : Dc mX12_book 134 (.iload_n 3) 1 135 := ⟨by decide +kernel, rfl⟩
theorem qX12_book_135 : Dc mX12_book 135 (.imul) 1 136 := ⟨by decide +kernel, rfl⟩
theorem qX12_book_136 : Dc mX12_book 136 (.iaload) 1 137 := ⟨by decide +kernel, rfl⟩
theorem qX12_book_137 : Dc mX12_book 137 (.aload_n 0) 1 138 := ⟨by decide +kernel, rfl⟩
theorem qX12_book_138 : Dc mX12_book 138 (.getfield 40) 3 141 := ⟨by decide +kernel, rfl⟩
theorem qX12_book_141 : Dc mX12_book 141 (.iconst 3) 1 142 := ⟨by decide +kernel, rfl⟩
theorem qX12_book_142 : Dc mX12_book 142 (.iload_n 3) 1 143 := ⟨by decide +kernel, rfl⟩
theorem qX12_book_143 : Dc mX12_book 143 (.imul) 1 144 := ⟨by decide +kernel, rfl⟩
theorem qX12_book_144 : Dc mX12_book 144 (.iconst 1) 1 145 := ⟨by decide +kernel, rfl⟩
theorem qX12_book_145 : Dc mX12_book 145 (.iadd) 1 146 := ⟨by decide +kernel, rfl⟩
theorem qX12_book_146 : Dc mX12_book 146 (.iaload) 1 147 := ⟨by decide +kernel, rfl⟩
theorem qX12_book_147 : Dc mX12_book 147 (.aload_n 0) 1 148 := ⟨by decide +kernel, rfl⟩
theorem qX12_book_148 : Dc mX12_book 148 (.getfield 40) 3 151 := ⟨by decide +kernel, rfl⟩
theorem qX12_book_151 : Dc mX12_book 151 (.iconst 3) 1 152 := ⟨by decide +kernel, rfl⟩
theorem qX12_book_152 : Dc mX12_book 152 (.iload_n 3) 1 153 := ⟨by decide +kernel, rfl⟩
theorem qX12_book_153 : Dc mX12_book 153 (.imul) 1 154 := ⟨by decide +kernel, rfl⟩
theorem qX12_book_154 : Dc mX12_book 154 (.iconst 2) 1 155 := ⟨by decide +kernel, rfl⟩
theorem qX12_book_155 : Dc mX12_book 155 (.iadd) 1 156 := ⟨by decide +kernel, rfl⟩
theorem qX12_book_156 : Dc mX12_book 156 (.iaload) 1 157 := ⟨by decide +kernel, rfl⟩
theorem qX12_book_157 : Dc mX12_book 157 (.invokevirtual 442) 3 160 := ⟨by decide +kernel, rfl⟩
theorem qX12_book_160 : Dc mX12_book 160 (.iastore) 1 161 := ⟨by decide +kernel, rfl⟩
theorem qX12_book_161 : Dc mX12_book 161 (.aload_n 0) 1 162 := ⟨by decide +kernel, rfl⟩
theorem qX12_book_162 : Dc mX12_book 162 (.getfield 69) 3 165 := ⟨by decide +kernel, rfl⟩
theorem qX12_book_165 : Dc mX12_book 165 (.iconst 0) 1 166 := ⟨by decide +kernel, rfl⟩
theorem qX12_book_166 : Dc mX12_book 166 (.iaload) 1 167 := ⟨by decide +kernel, rfl⟩
theorem qX12_book_167 : Dc mX12_book 167 (.ifCond .le 8) 3 170 := ⟨by decide +kernel, rfl⟩
theorem qX12_book_170 : Dc mX12_book 170 (.iload_n 3) 1 171 := ⟨by decide +kernel, rfl⟩
theorem qX12_book_171 : Dc mX12_book 171 (.istore_n 2) 1 172 := ⟨by decide +kernel, rfl⟩
theorem qX12_book_172 : Dc mX12_book 172 (.goto 13) 3 175 := ⟨by decide +kernel, rfl⟩
theorem qX12_book_175 : Dc mX12_book 175 (.aload_n 0) 1 176 := ⟨by decide +kernel, rfl⟩
theorem qX12_book_176 : Dc mX12_book 176 (.getfield 69) 3 179 := ⟨by decide +kernel, rfl⟩
theorem qX12_book_179 : Dc mX12_book 179 (.iconst 1) 1 180 := ⟨by decide +kernel, rfl⟩
theorem qX12_book_180 : Dc mX12_book 180 (.dup2) 1 181 := ⟨by decide +kernel, rfl⟩
theorem qX12_book_181 : Dc mX12_book 181 (.iaload) 1 182 := ⟨by decide +kernel, rfl⟩
theorem qX12_book_182 : Dc mX12_book 182 (.iconst 1) 1 183 := ⟨by decide +kernel, rfl⟩
theorem qX12_book_183 : Dc mX12_book 183 (.iadd) 1 184 := ⟨by decide +kernel, rfl⟩
theorem qX12_book_184 : Dc mX12_book 184 (.iastore) 1 185 := ⟨by decide +kernel, rfl⟩
theorem qX12_book_185 : Dc mX12_book 185 (.iinc 3 1) 3 188 := ⟨by decide +kernel, rfl⟩
theorem qX12_book_188 : Dc mX12_book 188 (.goto (-77)) 3 191 := ⟨by decide +kernel, rfl⟩
theorem qX12_book_191 : Dc mX12_book 191 (.aload_n 0) 1 192 := ⟨by decide +kernel, rfl⟩
theorem qX12_book_192 : Dc mX12_book 192 (.getfield 69) 3 195 := ⟨by decide +kernel, rfl⟩
theorem qX12_book_195 : Dc mX12_book 195 (.iconst 2) 1 196 := ⟨by decide +kernel, rfl⟩
theorem qX12_book_196 : Dc mX12_book 196 (.aload_n 0) 1 197 := ⟨by decide +kernel, rfl⟩
theorem qX12_book_197 : Dc mX12_book 197 (.getfield 33) 3 200 := ⟨by decide +kernel, rfl⟩
theorem qX12_book_200 : Dc mX12_book 200 (.sipush 147) 3 203 := ⟨by decide +kernel, rfl⟩
theorem qX12_book_203 : Dc mX12_book 203 (.iaload) 1 204 := ⟨by decide +kernel, rfl⟩
theorem qX12_book_204 : Dc mX12_book 204 (.iastore) 1 205 := ⟨by decide +kernel, rfl⟩
theorem qX12_book_205 : Dc mX12_book 205 (.aload_n 0) 1 206 := ⟨by decide +kernel, rfl⟩
theorem qX12_book_206 : Dc mX12_book 206 (.getfield 69) 3 209 := ⟨by decide +kernel, rfl⟩
theorem qX12_book_209 : Dc mX12_book 209 (.iconst 3) 1 210 := ⟨by decide +kernel, rfl⟩
theorem qX12_book_210 : Dc mX12_book 210 (.aload_n 0) 1 211 := ⟨by decide +kernel, rfl⟩
theorem qX12_book_211 : Dc mX12_book 211 (.invokevirtual 310) 3 214 := ⟨by decide +kernel, rfl⟩
theorem qX12_book_214 : Dc mX12_book 214 (.iastore) 1 215 := ⟨by decide +kernel, rfl⟩
theorem qX12_book_215 : Dc mX12_book 215 (.aload_n 0) 1 216 := ⟨by decide +kernel, rfl⟩
theorem qX12_book_216 : Dc mX12_book 216 (.iconst 1) 1 217 := ⟨by decide +kernel, rfl⟩
theorem qX12_book_217 : Dc mX12_book 217 (.putfield 445) 3 220 := ⟨by decide +kernel, rfl⟩
theorem qX12_book_220 : Dc mX12_book 220 (.iload_n 1) 1 221 := ⟨by decide +kernel, rfl⟩
theorem qX12_book_221 : Dc mX12_book 221 (.iconst 1) 1 222 := ⟨by decide +kernel, rfl⟩
theorem qX12_book_222 : Dc mX12_book 222 (.if_icmp .ne 52) 3 225 := ⟨by decide +kernel, rfl⟩
theorem qX12_book_225 : Dc mX12_book 225 (.aload_n 0) 1 226 := ⟨by decide +kernel, rfl⟩
theorem qX12_book_226 : Dc mX12_book 226 (.getfield 69) 3 229 := ⟨by decide +kernel, rfl⟩
theorem qX12_book_229 : Dc mX12_book 229 (.iconst 1) 1 230 := ⟨by decide +kernel, rfl⟩
theorem qX12_book_230 : Dc mX12_book 230 (.iaload) 1 231 := ⟨by decide +kernel, rfl⟩
theorem qX12_book_231 : Dc mX12_book 231 (.ifCond .le 43) 3 234 := ⟨by decide +kernel, rfl⟩
theorem qX12_book_234 : Dc mX12_book 234 (.aload_n 0) 1 235 := ⟨by decide +kernel, rfl⟩
theorem qX12_book_235 : Dc mX12_book 235 (.invokevirtual 325) 3 238 := ⟨by decide +kernel, rfl⟩
theorem qX12_book_238 : Dc mX12_book 238 (.iconst 0) 1 239 := ⟨by decide +kernel, rfl⟩
theorem qX12_book_239 : Dc mX12_book 239 (.istore_n 3) 1 240 := ⟨by decide +kernel, rfl⟩
theorem qX12_book_240 : Dc mX12_book 240 (.iload_n 3) 1 241 := ⟨by decide +kernel, rfl⟩
theorem qX12_book_241 : Dc mX12_book 241 (.bipush 31) 2 243 := ⟨by decide +kernel, rfl⟩
theorem qX12_book_243 : Dc mX12_book 243 (.if_icmp .ge 31) 3 246 := ⟨by decide +kernel, rfl⟩
theorem qX12_book_246 : Dc mX12_book 246 (.aload_n 0) 1 247 := ⟨by decide +kernel, rfl⟩
theorem qX12_book_247 : Dc mX12_book 247 (.getfield 50) 3 250 := ⟨by decide +kernel, rfl⟩
theorem qX12_book_250 : Dc mX12_book 250 (.bipush 31) 2 252 := ⟨by decide +kernel, rfl⟩
theorem qX12_book_252 : Dc mX12_book 252 (.aload_n 0) 1 253 := ⟨by decide +kernel, rfl⟩
theorem qX12_book_253 : Dc mX12_book 253 (.getfield 258) 3 256 := ⟨by decide +kernel, rfl⟩
theorem qX12_book_256 : Dc mX12_book 256 (.iconst 1) 1 257 := ⟨by decide +kernel, rfl⟩
theorem qX12_book_257 : Dc mX12_book 257 (.isub) 1 258 := ⟨by decide +kernel, rfl⟩
theorem qX12_book_258 : Dc mX12_book 258 (.imul) 1 259 := ⟨by decide +kernel, rfl⟩
theorem qX12_book_259 : Dc mX12_book 259 (.iload_n 3) 1 260 := ⟨by decide +kernel, rfl⟩
theorem qX12_book_260 : Dc mX12_book 260 (.iadd) 1 261 := ⟨by decide +kernel, rfl⟩
theorem qX12_book_261 : Dc mX12_book 261 (.aload_n 0) 1 262 := ⟨by decide +kernel, rfl⟩
theorem qX12_book_262 : Dc mX12_book 262 (.getfield 53) 3 265 := ⟨by decide +kernel, rfl⟩
theorem qX12_book_265 : Dc mX12_book 265 (.iload_n 3) 1 266 := ⟨by decide +kernel, rfl⟩
theorem qX12_book_266 : Dc mX12_book 266 (.iaload) 1 267 := ⟨by decide +kernel, rfl⟩
theorem qX12_book_267 : Dc mX12_book 267 (.iastore) 1 268 := ⟨by decide +kernel, rfl⟩
theorem qX12_book_268 : Dc mX12_book 268 (.iinc 3 1) 3 271 := ⟨by decide +kernel, rfl⟩
theorem qX12_book_271 : Dc mX12_book 271 (.goto (-31)) 3 274 := ⟨by decide +kernel, rfl⟩
theorem qX12_book_274 : Dc mX12_book 274 (.iload_n 1) 1 275 := ⟨by decide +kernel, rfl⟩
theorem qX12_book_275 : Dc mX12_book 275 (.ifCond .ne 7) 3 278 := ⟨by decide +kernel, rfl⟩
theorem qX12_book_278 : Dc mX12_book 278 (.aload_n 0) 1 279 := ⟨by decide +kernel, rfl⟩
theorem qX12_book_279 : Dc mX12_book 279 (.invokevirtual 398) 3 282 := ⟨by decide +kernel, rfl⟩
theorem qX12_book_282 : Dc mX12_book 282 (.iload_n 2) 1 283 := ⟨by decide +kernel, rfl⟩
theorem qX12_book_283 : Dc mX12_book 283 (.ireturn) 1 284 := ⟨by decide +kernel, rfl⟩

set_option maxRecDepth 20000 in
set_option maxHeartbeats 4000000 in
theorem w_X12_book_L39 {N : Nat} {c7 : Int32} {k9 : St → Option (Int32 × St)} {k11 : St → Option (Int32 × St)} {r : Int32} {sr : St}  (hk9 : ∀ (s10 : St), k9 s10 = some (r, sr) → E mX12_book 7 (some (.int r), sr) 83 [some (.ref 206), some (.int c7), none, none] [] s10) (hk11 : ∀ (s12 : St), k11 s12 = some (r, sr) → E mX12_book 7 (some (.int r), sr) 62 [some (.ref 206), none, none, none] [] s12) : ∀ (n13 : Nat) (s8 : St), f_X12_book_L39 N c7 k9 k11 n13 s8 = some (r, sr) → E mX12_book 7 (some (.int r), sr) 39 [some (.ref 206), some (.int c7), none, none] [] s8 := by
  intro n13
  induction n13 with
  | zero =>
    intro s8 h
    rw [f_X12_book_L39] at h; cases h
  | succ n13 ih14 =>
    intro s8 h
    rw [f_X12_book_L39] at h
    refine e_aload_n qX12_book_39 rfl ?_
    refine e_geti qX12_book_40 fl_X12_154 shq_206 kdq_11_11 h (fun v15 h => ?_)
    refine e_if_eq (tgt := 83) qX12_book_43 rfl h (fun _ h => ?_) (fun _ h => ?_)
    · exact e_weak (hk9 _ h) ⟨Or.inr rfl, Or.inr rfl, Or.inl rfl, Or.inl rfl, trivial⟩
    refine e_aload_n qX12_book_46 rfl ?_
    obtain ⟨v16, s17, hc, h⟩ := bd_e h
    refine e_cVi0 qX12_book_47 mv_X12_439 shq_206 rfl rfl (w_X12_bookLine hc) ?_
    refine e_if_eq (tgt := 62) qX12_book_50 rfl h (fun _ h => ?_) (fun _ h => ?_)
    · exact e_weak (hk11 _ h) ⟨Or.inr rfl, Or.inl rfl, Or.inl rfl, Or.inl rfl, trivial⟩
    refine e_aload_n qX12_book_53 rfl ?_
    refine e_bipush (nI 59) qX12_book_54 rfl ?_
    obtain ⟨v18, s19, hc, h⟩ := bd_e h
    refine e_cVi1 qX12_book_56 mv_X12_255 shq_206 rfl rfl (w_X12_sign hc) ?_
    refine e_if_ne (tgt := 70) qX12_book_59 rfl h (fun _ h => ?_) (fun _ h => ?_)
    · exact e_weak (hk11 _ h) ⟨Or.inr rfl, Or.inl rfl, Or.inl rfl, Or.inl rfl, trivial⟩
    refine e_aload_n qX12_book_70 rfl ?_
    refine e_dup qX12_book_71 rfl ?_
    refine e_geti qX12_book_72 fl_X12_436 shq_206 kdq_11_40 h (fun v20 h => ?_)
    refine e_iconst (nI 1) qX12_book_75 rfl ?_
    refine e_iadd qX12_book_76 ?_
    refine e_puti qX12_book_77 fp_X12_436 shq_206 kdq_11_40 h (fun s21 h => ?_)
    refine e_goto (tgt := 39) qX12_book_80 rfl ?_
    exact e_weak (ih14 _ h) ⟨Or.inr rfl, Or.inr rfl, Or.inl rfl, Or.inl rfl, trivial⟩

set_option maxRecDepth 20000 in
set_option maxHeartbeats 4000000 in
theorem w_X12_book_L89 {N : Nat} {c24 : Int32} {k27 : St → Option (Int32 × St)} {r : Int32} {sr : St}  (hk27 : ∀ (s28 : St), k27 s28 = some (r, sr) → E mX12_book 7 (some (.int r), sr) 107 [some (.ref 206), some (.int c24), none, none] [] s28) : ∀ (n29 : Nat) (v25 : Int32) (s26 : St), f_X12_book_L89 N c24 k27 n29 v25 s26 = some (r, sr) → E mX12_book 7 (some (.int r), sr) 89 [some (.ref 206), some (.int c24), some (.int v25), none] [] s26 := by
  intro n29
  induction n29 with
  | zero =>
    intro v25 s26 h
    rw [f_X12_book_L89] at h; cases h
  | succ n29 ih30 =>
    intro v25 s26 h
    rw [f_X12_book_L89] at h
    refine e_iload_n qX12_book_89 rfl ?_
    refine e_iconst (nI 4) qX12_book_90 rfl ?_
    refine e_icmp_ge (tgt := 107) qX12_book_91 rfl h (fun _ h => ?_) (fun _ h => ?_)
    · exact e_weak (hk27 _ h) ⟨Or.inr rfl, Or.inr rfl, Or.inl rfl, Or.inl rfl, trivial⟩
    refine e_aload_n qX12_book_94 rfl ?_
    refine e_getr 219 qX12_book_95 fl_X12_69 shq_206 kdq_11_41 rrq_206_41 ?_
    refine e_iload_n qX12_book_98 rfl ?_
    refine e_iconst (nI 0) qX12_book_99 rfl ?_
    refine e_iast qX12_book_100 shq_219 lnq_219 h (fun s31 h => ?_)
    refine vl_e h (fun h => ?_)
    obtain ⟨v32, ev32⟩ : ∃ y, v25 + (nI 1) = y := ⟨_, rfl⟩
    rw [ev32] at h
    refine e_iinc (nI 1) v32 (lv2 := [some (.ref 206), some (.int c24), some (.int v32), none]) qX12_book_101 rfl rfl rfl ev32 rfl ?_
    refine e_goto (tgt := 89) qX12_book_104 rfl ?_
    exact e_weak (ih30 _ _ h) ⟨Or.inr rfl, Or.inr rfl, Or.inr rfl, Or.inl rfl, trivial⟩

set_option maxRecDepth 20000 in
set_option maxHeartbeats 4000000 in
theorem w_X12_book_L111 {N : Nat} {c34 : Int32} {k38 : Int32 → St → Option (Int32 × St)} {r : Int32} {sr : St}  (hk38 : ∀ (v39 : Int32) (s40 : St), k38 v39 s40 = some (r, sr) → E mX12_book 7 (some (.int r), sr) 191 [some (.ref 206), some (.int c34), some (.int v39), none] [] s40) : ∀ (n41 : Nat) (v35 : Int32) (v36 : Int32) (s37 : St), f_X12_book_L111 N c34 k38 n41 v35 v36 s37 = some (r, sr) → E mX12_book 7 (some (.int r), sr) 111 [some (.ref 206), some (.int c34), some (.int v35), some (.int v36)] [] s37 := by
  intro n41
  induction n41 with
  | zero =>
    intro v35 v36 s37 h
    rw [f_X12_book_L111] at h; cases h
  | succ n41 ih42 =>
    intro v35 v36 s37 h
    rw [f_X12_book_L111] at h
    refine e_iload_n qX12_book_111 rfl ?_
    refine e_aload_n qX12_book_112 rfl ?_
    refine e_geti qX12_book_113 fl_X12_436 shq_206 kdq_11_40 h (fun v43 h => ?_)
    refine e_icmp_ge (tgt := 191) qX12_book_116 rfl h (fun _ h => ?_) (fun _ h => ?_)
    · exact e_weak (hk38 _ _ h) ⟨Or.inr rfl, Or.inr rfl, Or.inr rfl, Or.inl rfl, trivial⟩
    refine e_iload_n qX12_book_119 rfl ?_
    refine e_if_ge (tgt := 191) qX12_book_120 rfl h (fun _ h => ?_) (fun _ h => ?_)
    · exact e_weak (hk38 _ _ h) ⟨Or.inr rfl, Or.inr rfl, Or.inr rfl, Or.inl rfl, trivial⟩
    refine e_aload_n qX12_book_123 rfl ?_
    refine e_getr 219 qX12_book_124 fl_X12_69 shq_206 kdq_11_41 rrq_206_41 ?_
    refine e_iconst (nI 0) qX12_book_127 rfl ?_
    refine e_aload_n qX12_book_128 rfl ?_
    refine e_aload_n qX12_book_129 rfl ?_
    refine e_getr 210 qX12_book_130 fl_X12_40 shq_206 kdq_11_8 rrq_206_8 ?_
    refine e_iconst (nI 3) qX12_book_133 rfl ?_
    refine e_iload_n qX12_book_134 rfl ?_
    refine e_imul qX12_book_135 ?_
    refine e_iald qX12_book_136 shq_210 lnq_210 h (fun v44 h => ?_)
    refine e_aload_n qX12_book_137 rfl ?_
    refine e_getr 210 qX12_book_138 fl_X12_40 shq_206 kdq_11_8 rrq_206_8 ?_
    refine e_iconst (nI 3) qX12_book_141 rfl ?_
    refine e_iload_n qX12_book_142 rfl ?_
    refine e_imul qX12_book_143 ?_
    refine e_iconst (nI 1) qX12_book_144 rfl ?_
    refine e_iadd qX12_book_145 ?_
    refine e_iald qX12_book_146 shq_210 lnq_210 h (fun v45 h => ?_)
    refine e_aload_n qX12_book_147 rfl ?_
    refine e_getr 210 qX12_book_148 fl_X12_40 shq_206 kdq_11_8 rrq_206_8 ?_
    refine e_iconst (nI 3) qX12_book_151 rfl ?_
    refine e_iload_n qX12_book_152 rfl ?_
    refine e_imul qX12_book_153 ?_
    refine e_iconst (nI 2) qX12_book_154 rfl ?_
    refine e_iadd qX12_book_155 ?_
    refine e_iald qX12_book_156 shq_210 lnq_210 h (fun v46 h => ?_)
    obtain ⟨v47, s48, hc, h⟩ := bd_e h
    refine e_cVi3 qX12_book_157 mv_X12_442 shq_206 rfl rfl (w_X12_does hc) ?_
    refine e_iast qX12_book_160 shq_219 lnq_219 h (fun s49 h => ?_)
    refine e_aload_n qX12_book_161 rfl ?_
    refine e_getr 219 qX12_book_162 fl_X12_69 shq_206 kdq_11_41 rrq_206_41 ?_
    refine e_iconst (nI 0) qX12_book_165 rfl ?_
    refine e_iald qX12_book_166 shq_219 lnq_219 h (fun v50 h => ?_)
    refine jn_e (fun j => ∀ (v51 : Int32) (s52 : St), j v51 s52 = some (r, sr) → E mX12_book 7 (some (.int r), sr) 185 [some (.ref 206), some (.int c34), some (.int v51), some (.int v36)] [] s52) h ?_ (fun j53 hj53 h => ?_)
    · intro v51 s52 h
      refine vl_e h (fun h => ?_)
      obtain ⟨v54, ev54⟩ : ∃ y, v36 + (nI 1) = y := ⟨_, rfl⟩
      rw [ev54] at h
      refine e_iinc (nI 1) v54 (lv2 := [some (.ref 206), some (.int c34), some (.int v51), some (.int v54)]) qX12_book_185 rfl rfl rfl ev54 rfl ?_
      refine e_goto (tgt := 111) qX12_book_188 rfl ?_
      exact e_weak (ih42 _ _ _ h) ⟨Or.inr rfl, Or.inr rfl, Or.inr rfl, Or.inr rfl, trivial⟩
    refine e_if_le (tgt := 175) qX12_book_167 rfl h (fun _ h => ?_) (fun _ h => ?_)
    · refine e_aload_n qX12_book_175 rfl ?_
      refine e_getr 219 qX12_book_176 fl_X12_69 shq_206 kdq_11_41 rrq_206_41 ?_
      refine e_iconst (nI 1) qX12_book_179 rfl ?_
      refine e_dup2 qX12_book_180 rfl rfl ?_
      refine e_iald qX12_book_181 shq_219 lnq_219 h (fun v55 h => ?_)
      refine e_iconst (nI 1) qX12_book_182 rfl ?_
      refine e_iadd qX12_book_183 ?_
      refine e_iast qX12_book_184 shq_219 lnq_219 h (fun s56 h => ?_)
      exact e_weak (hj53 _ _ h) ⟨Or.inr rfl, Or.inr rfl, Or.inr rfl, Or.inr rfl, trivial⟩
    refine e_iload_n qX12_book_170 rfl ?_
    refine e_istore_n (lv2 := [some (.ref 206), some (.int c34), some (.int v36), some (.int v36)]) qX12_book_171 rfl rfl rfl ?_
    refine e_goto (tgt := 185) qX12_book_172 rfl ?_
    exact e_weak (hj53 _ _ h) ⟨Or.inr rfl, Or.inr rfl, Or.inr rfl, Or.inr rfl, trivial⟩

set_option maxRecDepth 20000 in
set_option maxHeartbeats 4000000 in
theorem w_X12_book_L240 {N : Nat} {c69 : Int32} {c70 : Int32} {k73 : St → Option (Int32 × St)} {r : Int32} {sr : St}  (hk73 : ∀ (s74 : St), k73 s74 = some (r, sr) → E mX12_book 7 (some (.int r), sr) 274 [some (.ref 206), some (.int c69), some (.int c70), none] [] s74) : ∀ (n75 : Nat) (v71 : Int32) (s72 : St), f_X12_book_L240 N c69 c70 k73 n75 v71 s72 = some (r, sr) → E mX12_book 7 (some (.int r), sr) 240 [some (.ref 206), some (.int c69), some (.int c70), some (.int v71)] [] s72 := by
  intro n75
  induction n75 with
  | zero =>
    intro v71 s72 h
    rw [f_X12_book_L240] at h; cases h
  | succ n75 ih76 =>
    intro v71 s72 h
    rw [f_X12_book_L240] at h
    refine e_iload_n qX12_book_240 rfl ?_
    refine e_bipush (nI 31) qX12_book_241 rfl ?_
    refine e_icmp_ge (tgt := 274) qX12_book_243 rfl h (fun _ h => ?_) (fun _ h => ?_)
    · exact e_weak (hk73 _ h) ⟨Or.inr rfl, Or.inr rfl, Or.inr rfl, Or.inl rfl, trivial⟩
    refine e_aload_n qX12_book_246 rfl ?_
    refine e_getr 213 qX12_book_247 fl_X12_50 shq_206 kdq_11_22 rrq_206_22 ?_
    refine e_bipush (nI 31) qX12_book_250 rfl ?_
    refine e_aload_n qX12_book_252 rfl ?_
    refine e_geti qX12_book_253 fl_X12_258 shq_206 kdq_11_24 h (fun v77 h => ?_)
    refine e_iconst (nI 1) qX12_book_256 rfl ?_
    refine e_isub qX12_book_257 ?_
    refine e_imul qX12_book_258 ?_
    refine e_iload_n qX12_book_259 rfl ?_
    refine e_iadd qX12_book_260 ?_
    refine e_aload_n qX12_book_261 rfl ?_
    refine e_getr 214 qX12_book_262 fl_X12_53 shq_206 kdq_11_23 rrq_206_23 ?_
    refine e_iload_n qX12_book_265 rfl ?_
    refine e_iald qX12_book_266 shq_214 lnq_214 h (fun v78 h => ?_)
    refine e_iast qX12_book_267 shq_213 lnq_213 h (fun s79 h => ?_)
    refine vl_e h (fun h => ?_)
    obtain ⟨v80, ev80⟩ : ∃ y, v71 + (nI 1) = y := ⟨_, rfl⟩
    rw [ev80] at h
    refine e_iinc (nI 1) v80 (lv2 := [some (.ref 206), some (.int c69), some (.int c70), some (.int v80)]) qX12_book_268 rfl rfl rfl ev80 rfl ?_
    refine e_goto (tgt := 240) qX12_book_271 rfl ?_
    exact e_weak (ih76 _ _ h) ⟨Or.inr rfl, Or.inr rfl, Or.inr rfl, Or.inr rfl, trivial⟩

set_option maxRecDepth 20000 in
set_option maxHeartbeats 4000000 in
theorem w_X12_book {N : Nat} {x1 : Int32} {s0 : St} {r : Int32} {sr : St} (h : f_X12_book N x1 s0 = some (r, sr)) : Ct mX12_book 7 [.ref 206, .int x1] s0 (some (.int r), sr) := by
  refine Ct.ofE (by decide +kernel) rfl ?_
  show E mX12_book 7 (some (.int r), sr) 0 [some (.ref 206), some (.int x1), none, none] [] s0
  unfold f_X12_book at h
  refine e_aload_n qX12_book_0 rfl ?_
  refine e_iconst (nI 0) qX12_book_1 rfl ?_
  refine e_puti qX12_book_2 fp_X12_1 shq_206 kdq_11_0 h (fun s1 h => ?_)
  refine e_iload_n qX12_book_5 rfl ?_
  refine e_iconst (nI 0) qX12_book_6 rfl ?_
  refine e_iconst (nI 1) qX12_book_7 rfl ?_
  obtain ⟨v2, hc, h⟩ := bp_e h
  refine e_cSi3 qX12_book_8 ms_X12_186 rfl rfl (w_X12_isIn hc) ?_
  refine e_if_ne (tgt := 18) qX12_book_11 rfl h (fun _ h => ?_) (fun _ h => ?_)
  · refine e_sipush (-1000) qX12_book_14 rfl ?_
    exact e_iret qX12_book_17 rfl (ret_i h)
  refine e_aload_n qX12_book_18 rfl ?_
  refine e_sipush (nI 400) qX12_book_19 rfl ?_
  obtain ⟨s3, hc, h⟩ := bp_e h
  refine e_cVv1 qX12_book_22 mv_X12_246 shq_206 rfl rfl (w_X12_taken hc) ?_
  refine e_aload_n qX12_book_25 rfl ?_
  refine e_iconst (nI 0) qX12_book_26 rfl ?_
  refine e_puti qX12_book_27 fp_X12_171 shq_206 kdq_11_15 h (fun s4 h => ?_)
  refine e_aload_n qX12_book_30 rfl ?_
  refine e_iconst (nI 0) qX12_book_31 rfl ?_
  refine e_puti qX12_book_32 fp_X12_436 shq_206 kdq_11_40 h (fun s5 h => ?_)
  refine e_aload_n qX12_book_35 rfl ?_
  obtain ⟨s6, hc, h⟩ := bp_e h
  refine e_cVv0 qX12_book_36 mv_X12_183 shq_206 rfl rfl (w_X12_next hc) ?_
  refine e_weak (w_X12_book_L39 (fun s22 h => ?_) (fun s82 h => ?_) _ _ h) ⟨Or.inr rfl, Or.inr rfl, Or.inl rfl, Or.inl rfl, trivial⟩
  · refine e_aload_n qX12_book_83 rfl ?_
    obtain ⟨s23, hc, h⟩ := bp_e h
    refine e_cVv0 qX12_book_84 mv_X12_395 shq_206 rfl rfl (w_X12_tries hc) ?_
    refine e_iconst (nI 0) qX12_book_87 rfl ?_
    refine e_istore_n (lv2 := [some (.ref 206), some (.int x1), some (.int (nI 0)), none]) qX12_book_88 rfl rfl rfl ?_
    refine e_weak (w_X12_book_L89 (fun s33 h => ?_) _ _ _ h) ⟨Or.inr rfl, Or.inr rfl, Or.inr rfl, Or.inl rfl, trivial⟩
    refine e_iconst (-1) qX12_book_107 rfl ?_
    refine e_istore_n (lv2 := [some (.ref 206), some (.int x1), some (.int (-1)), none]) qX12_book_108 rfl rfl rfl ?_
    refine e_iconst (nI 0) qX12_book_109 rfl ?_
    refine e_istore_n (lv2 := [some (.ref 206), some (.int x1), some (.int (-1)), some (.int (nI 0))]) qX12_book_110 rfl rfl rfl ?_
    refine e_weak (w_X12_book_L111 (fun v57 s58 h => ?_) _ _ _ _ h) ⟨Or.inr rfl, Or.inr rfl, Or.inr rfl, Or.inr rfl, trivial⟩
    refine e_aload_n qX12_book_191 rfl ?_
    refine e_getr 219 qX12_book_192 fl_X12_69 shq_206 kdq_11_41 rrq_206_41 ?_
    refine e_iconst (nI 2) qX12_book_195 rfl ?_
    refine e_aload_n qX12_book_196 rfl ?_
    refine e_getr 208 qX12_book_197 fl_X12_33 shq_206 kdq_11_6 rrq_206_6 ?_
    refine e_sipush (nI 147) qX12_book_200 rfl ?_
    refine e_iald qX12_book_203 shq_208 lnq_208 h (fun v59 h => ?_)
    refine e_iast qX12_book_204 shq_219 lnq_219 h (fun s60 h => ?_)
    refine e_aload_n qX12_book_205 rfl ?_
    refine e_getr 219 qX12_book_206 fl_X12_69 shq_206 kdq_11_41 rrq_206_41 ?_
    refine e_iconst (nI 3) qX12_book_209 rfl ?_
    refine e_aload_n qX12_book_210 rfl ?_
    obtain ⟨v61, hc, h⟩ := bp_e h
    refine e_cVi0 qX12_book_211 mv_X12_310 shq_206 rfl rfl (w_X12_oilInAll hc) ?_
    refine e_iast qX12_book_214 shq_219 lnq_219 h (fun s62 h => ?_)
    refine e_aload_n qX12_book_215 rfl ?_
    refine e_iconst (nI 1) qX12_book_216 rfl ?_
    refine e_putz qX12_book_217 fp_X12_445 shq_206 kdq_11_42 (by decide) h (fun s63 h => ?_)
    refine e_iload_n qX12_book_220 rfl ?_
    refine e_iconst (nI 1) qX12_book_221 rfl ?_
    refine jn_e (fun j => ∀ (s64 : St), j s64 = some (r, sr) → E mX12_book 7 (some (.int r), sr) 274 [some (.ref 206), some (.int x1), some (.int v57), none] [] s64) h ?_ (fun j65 hj65 h => ?_)
    · intro s64 h
      refine e_iload_n qX12_book_274 rfl ?_
      refine e_if_ne (tgt := 282) qX12_book_275 rfl h (fun _ h => ?_) (fun _ h => ?_)
      · refine e_aload_n qX12_book_278 rfl ?_
        obtain ⟨s66, hc, h⟩ := bp_e h
        refine e_cVv0 qX12_book_279 mv_X12_398 shq_206 rfl rfl (w_X12_back hc) ?_
        refine e_iload_n qX12_book_282 rfl ?_
        exact e_iret qX12_book_283 rfl (ret_i h)
      refine e_iload_n qX12_book_282 rfl ?_
      exact e_iret qX12_book_283 rfl (ret_i h)
    refine e_icmp_ne (tgt := 274) qX12_book_222 rfl h (fun _ h => ?_) (fun _ h => ?_)
    · refine e_aload_n qX12_book_225 rfl ?_
      refine e_getr 219 qX12_book_226 fl_X12_69 shq_206 kdq_11_41 rrq_206_41 ?_
      refine e_iconst (nI 1) qX12_book_229 rfl ?_
      refine e_iald qX12_book_230 shq_219 lnq_219 h (fun v67 h => ?_)
      refine e_if_le (tgt := 274) qX12_book_231 rfl h (fun _ h => ?_) (fun _ h => ?_)
      · exact e_weak (hj65 _ h) ⟨Or.inr rfl, Or.inr rfl, Or.inr rfl, Or.inl rfl, trivial⟩
      refine e_aload_n qX12_book_234 rfl ?_
      obtain ⟨s68, hc, h⟩ := bp_e h
      refine e_cVv0 qX12_book_235 mv_X12_325 shq_206 rfl rfl (w_X12_stores hc) ?_
      refine e_iconst (nI 0) qX12_book_238 rfl ?_
      refine e_istore_n (lv2 := [some (.ref 206), some (.int x1), some (.int v57), some (.int (nI 0))]) qX12_book_239 rfl rfl rfl ?_
      refine e_weak (w_X12_book_L240 (fun s81 h => ?_) _ _ _ h) ⟨Or.inr rfl, Or.inr rfl, Or.inr rfl, Or.inr rfl, trivial⟩
      exact e_weak (hj65 _ h) ⟨Or.inr rfl, Or.inr rfl, Or.inr rfl, Or.inl rfl, trivial⟩
    exact e_weak (hj65 _ h) ⟨Or.inr rfl, Or.inr rfl, Or.inr rfl, Or.inl rfl, trivial⟩
  refine e_bipush (-2) qX12_book_62 rfl ?_
  refine e_aload_n qX12_book_64 rfl ?_
  refine e_geti qX12_book_65 fl_X12_174 shq_206 kdq_11_16 h (fun v83 h => ?_)
  refine e_isub qX12_book_68 ?_
  exact e_iret qX12_book_69 rfl (ret_i h)

def f_X12_told (x1 : Int32) (s0 : St) : Option (Int32 × St) :=
  vl (sI s0 206 0 (nI 0)) fun s1 =>
  vl (s1.1 206 42) fun v2 =>
  jn (some ((-1), s1)) fun j3 =>
  if v2 = 0 then
    j3
  else
  bp (f_X12_isIn x1 (nI 0) (nI 3) s1) fun v4 =>
  if v4 = 0 then
    j3
  else
  ald (s1.1 219) 4 x1 fun v5 =>
  some (v5, s1)

theorem qX12_told_0 : Dc mX12_told 0 (.aload_n 0) 1 1 := ⟨by decide +kernel, rfl⟩
theorem qX12_told_1 : Dc mX12_told 1 (.iconst 0) 1 2 := ⟨by decide +kernel, rfl⟩
theorem qX12_told_2 : Dc mX12_told 2 (.putfield 1) 3 5 := ⟨by decide +kernel, rfl⟩
theorem qX12_told_5 : Dc mX12_told 5 (.aload_n 0) 1 6 := ⟨by decide +kernel, rfl⟩
theorem qX12_told_6 : Dc mX12_told 6 (.getfield 445) 3 9 := ⟨by decide +kernel, rfl⟩
theorem qX12_told_9 : Dc mX12_told 9 (.ifCond .eq 21) 3 12 := ⟨by decide +kernel, rfl⟩
theorem qX12_told_12 : Dc mX12_told 12 (.iload_n 1) 1 13 := ⟨by decide +kernel, rfl⟩
theorem qX12_told_13 : Dc mX12_told 13 (.iconst 0) 1 14 := ⟨by decide +kernel, rfl⟩
theorem qX12_told_14 : Dc mX12_told 14 (.iconst 3) 1 15 := ⟨by decide +kernel, rfl⟩
theorem qX12_told_15 : Dc mX12_told 15 (.invokestatic 186) 3 18 := ⟨by decide +kernel, rfl⟩
theorem qX12_told_18 : Dc mX12_told 18 (.ifCond .eq 12) 3 21 := ⟨by decide +kernel, rfl⟩
theorem qX12_told_21 : Dc mX12_told 21 (.aload_n 0) 1 22 := ⟨by decide +kernel, rfl⟩
theorem qX12_told_22 : Dc mX12_told 22 (.getfield 69) 3 25 := ⟨by decide +kernel, rfl⟩
theorem qX12_told_25 : Dc mX12_told 25 (.iload_n 1) 1 26 := ⟨by decide +kernel, rfl⟩
theorem qX12_told_26 : Dc mX12_told 26 (.iaload) 1 27 := ⟨by decide +kernel, rfl⟩
theorem qX12_told_27 : Dc mX12_told 27 (.goto 4) 3 30 := ⟨by decide +kernel, rfl⟩
theorem qX12_told_30 : Dc mX12_told 30 (.iconst (-1)) 1 31 := ⟨by decide +kernel, rfl⟩
theorem qX12_told_31 : Dc mX12_told 31 (.ireturn) 1 32 := ⟨by decide +kernel, rfl⟩

set_option maxRecDepth 20000 in
set_option maxHeartbeats 4000000 in
theorem w_X12_told {x1 : Int32} {s0 : St} {r : Int32} {sr : St} (h : f_X12_told x1 s0 = some (r, sr)) : Ct mX12_told 1 [.ref 206, .int x1] s0 (some (.int r), sr) := by
  refine Ct.ofE (by decide +kernel) rfl ?_
  show E mX12_told 1 (some (.int r), sr) 0 [some (.ref 206), some (.int x1)] [] s0
  unfold f_X12_told at h
  refine e_aload_n qX12_told_0 rfl ?_
  refine e_iconst (nI 0) qX12_told_1 rfl ?_
  refine e_puti qX12_told_2 fp_X12_1 shq_206 kdq_11_0 h (fun s1 h => ?_)
  refine e_aload_n qX12_told_5 rfl ?_
  refine e_geti qX12_told_6 fl_X12_445 shq_206 kdq_11_42 h (fun v2 h => ?_)
  refine jn_e (fun j => j = some (r, sr) → E mX12_told 1 (some (.int r), sr) 30 [none, none] [] s1) h ?_ (fun j3 hj3 h => ?_)
  · intro h
    refine e_iconst (-1) qX12_told_30 rfl ?_
    exact e_iret qX12_told_31 rfl (ret_i h)
  refine e_if_eq (tgt := 30) qX12_told_9 rfl h (fun _ h => ?_) (fun _ h => ?_)
  · exact e_weak (hj3 h) ⟨Or.inl rfl, Or.inl rfl, trivial⟩
  refine e_iload_n qX12_told_12 rfl ?_
  refine e_iconst (nI 0) qX12_told_13 rfl ?_
  refine e_iconst (nI 3) qX12_told_14 rfl ?_
  obtain ⟨v4, hc, h⟩ := bp_e h
  refine e_cSi3 qX12_told_15 ms_X12_186 rfl rfl (w_X12_isIn hc) ?_
  refine e_if_eq (tgt := 30) qX12_told_18 rfl h (fun _ h => ?_) (fun _ h => ?_)
  · exact e_weak (hj3 h) ⟨Or.inl rfl, Or.inl rfl, trivial⟩
  refine e_aload_n qX12_told_21 rfl ?_
  refine e_getr 219 qX12_told_22 fl_X12_69 shq_206 kdq_11_41 rrq_206_41 ?_
  refine e_iload_n qX12_told_25 rfl ?_
  refine e_iald qX12_told_26 shq_219 lnq_219 h (fun v5 h => ?_)
  refine e_goto (tgt := 31) qX12_told_27 rfl ?_
  exact e_iret qX12_told_31 rfl (ret_i h)

def f_X12_code (x1 : Int32) (x2 : Int32) (x3 : Int32) (s0 : St) : Option (St) :=
  vl (s0.1 206 44) fun v1 =>
  ald (fun j => sI s0 210 j x1) 135 ((nI 3) * v1) fun s2 =>
  vl (s2.1 206 44) fun v3 =>
  ald (fun j => sI s2 210 j x2) 135 (((nI 3) * v3) + (nI 1)) fun s4 =>
  vl (s4.1 206 44) fun v5 =>
  ald (fun j => sI s4 210 j x3) 135 (((nI 3) * v5) + (nI 2)) fun s6 =>
  vl (s6.1 206 44) fun v7 =>
  vl (sI s6 206 44 (v7 + (nI 1))) fun s8 =>
  some s8

theorem qX12_code_0 : Dc mX12_code 0 (.aload_n 0) 1 1 := ⟨by decide +kernel, rfl⟩
theorem qX12_code_1 : Dc mX12_code 1 (.getfield 40) 3 4 := ⟨by decide +kernel, rfl⟩
theorem qX12_code_4 : Dc mX12_code 4 (.iconst 3) 1 5 := ⟨by decide +kernel, rfl⟩
theorem qX12_code_5 : Dc mX12_code 5 (.aload_n 0) 1 6 := ⟨by decide +kernel, rfl⟩
theorem qX12_code_6 : Dc mX12_code 6 (.getfield 448) 3 9 := ⟨by decide +kernel, rfl⟩
theorem qX12_code_9 : Dc mX12_code 9 (.imul) 1 10 := ⟨by decide +kernel, rfl⟩
theorem qX12_code_10 : Dc mX12_code 10 (.iload_n 1) 1 11 := ⟨by decide +kernel, rfl⟩
theorem qX12_code_11 : Dc mX12_code 11 (.iastore) 1 12 := ⟨by decide +kernel, rfl⟩
theorem qX12_code_12 : Dc mX12_code 12 (.aload_n 0) 1 13 := ⟨by decide +kernel, rfl⟩
theorem qX12_code_13 : Dc mX12_code 13 (.getfield 40) 3 16 := ⟨by decide +kernel, rfl⟩
theorem qX12_code_16 : Dc mX12_code 16 (.iconst 3) 1 17 := ⟨by decide +kernel, rfl⟩
theorem qX12_code_17 : Dc mX12_code 17 (.aload_n 0) 1 18 := ⟨by decide +kernel, rfl⟩
theorem qX12_code_18 : Dc mX12_code 18 (.getfield 448) 3 21 := ⟨by decide +kernel, rfl⟩
theorem qX12_code_21 : Dc mX12_code 21 (.imul) 1 22 := ⟨by decide +kernel, rfl⟩
theorem qX12_code_22 : Dc mX12_code 22 (.iconst 1) 1 23 := ⟨by decide +kernel, rfl⟩
theorem qX12_code_23 : Dc mX12_code 23 (.iadd) 1 24 := ⟨by decide +kernel, rfl⟩
theorem qX12_code_24 : Dc mX12_code 24 (.iload_n 2) 1 25 := ⟨by decide +kernel, rfl⟩
theorem qX12_code_25 : Dc mX12_code 25 (.iastore) 1 26 := ⟨by decide +kernel, rfl⟩
theorem qX12_code_26 : Dc mX12_code 26 (.aload_n 0) 1 27 := ⟨by decide +kernel, rfl⟩
theorem qX12_code_27 : Dc mX12_code 27 (.getfield 40) 3 30 := ⟨by decide +kernel, rfl⟩
theorem qX12_code_30 : Dc mX12_code 30 (.iconst 3) 1 31 := ⟨by decide +kernel, rfl⟩
theorem qX12_code_31 : Dc mX12_code 31 (.aload_n 0) 1 32 := ⟨by decide +kernel, rfl⟩
theorem qX12_code_32 : Dc mX12_code 32 (.getfield 448) 3 35 := ⟨by decide +kernel, rfl⟩
theorem qX12_code_35 : Dc mX12_code 35 (.imul) 1 36 := ⟨by decide +kernel, rfl⟩
theorem qX12_code_36 : Dc mX12_code 36 (.iconst 2) 1 37 := ⟨by decide +kernel, rfl⟩
theorem qX12_code_37 : Dc mX12_code 37 (.iadd) 1 38 := ⟨by decide +kernel, rfl⟩
theorem qX12_code_38 : Dc mX12_code 38 (.iload_n 3) 1 39 := ⟨by decide +kernel, rfl⟩
theorem qX12_code_39 : Dc mX12_code 39 (.iastore) 1 40 := ⟨by decide +kernel, rfl⟩
theorem qX12_code_40 : Dc mX12_code 40 (.aload_n 0) 1 41 := ⟨by decide +kernel, rfl⟩
theorem qX12_code_41 : Dc mX12_code 41 (.dup) 1 42 := ⟨by decide +kernel, rfl⟩
theorem qX12_code_42 : Dc mX12_code 42 (.getfield 448) 3 45 := ⟨by decide +kernel, rfl⟩
theorem qX12_code_45 : Dc mX12_code 45 (.iconst 1) 1 46 := ⟨by decide +kernel, rfl⟩
theorem qX12_code_46 : Dc mX12_code 46 (.iadd) 1 47 := ⟨by decide +kernel, rfl⟩
theorem qX12_code_47 : Dc mX12_code 47 (.putfield 448) 3 50 := ⟨by decide +kernel, rfl⟩
theorem qX12_code_50 : Dc mX12_code 50 (.return_) 1 51 := ⟨by decide +kernel, rfl⟩

set_option maxRecDepth 20000 in
set_option maxHeartbeats 4000000 in
theorem w_X12_code {x1 : Int32} {x2 : Int32} {x3 : Int32} {s0 : St} {sr : St} (h : f_X12_code x1 x2 x3 s0 = some sr) : Ct mX12_code 0 [.ref 206, .int x1, .int x2, .int x3] s0 (none, sr) := by
  refine Ct.ofE (by decide +kernel) rfl ?_
  show E mX12_code 0 (none, sr) 0 [some (.ref 206), some (.int x1), some (.int x2), some (.int x3)] [] s0
  unfold f_X12_code at h
  refine e_aload_n qX12_code_0 rfl ?_
  refine e_getr 210 qX12_code_1 fl_X12_40 shq_206 kdq_11_8 rrq_206_8 ?_
  refine e_iconst (nI 3) qX12_code_4 rfl ?_
  refine e_aload_n qX12_code_5 rfl ?_
  refine e_geti qX12_code_6 fl_X12_448 shq_206 kdq_11_44 h (fun v1 h => ?_)
  refine e_imul qX12_code_9 ?_
  refine e_iload_n qX12_code_10 rfl ?_
  refine e_iast qX12_code_11 shq_210 lnq_210 h (fun s2 h => ?_)
  refine e_aload_n qX12_code_12 rfl ?_
  refine e_getr 210 qX12_code_13 fl_X12_40 shq_206 kdq_11_8 rrq_206_8 ?_
  refine e_iconst (nI 3) qX12_code_16 rfl ?_
  refine e_aload_n qX12_code_17 rfl ?_
  refine e_geti qX12_code_18 fl_X12_448 shq_206 kdq_11_44 h (fun v3 h => ?_)
  refine e_imul qX12_code_21 ?_
  refine e_iconst (nI 1) qX12_code_22 rfl ?_
  refine e_iadd qX12_code_23 ?_
  refine e_iload_n qX12_code_24 rfl ?_
  refine e_iast qX12_code_25 shq_210 lnq_210 h (fun s4 h => ?_)
  refine e_aload_n qX12_code_26 rfl ?_
  refine e_getr 210 qX12_code_27 fl_X12_40 shq_206 kdq_11_8 rrq_206_8 ?_
  refine e_iconst (nI 3) qX12_code_30 rfl ?_
  refine e_aload_n qX12_code_31 rfl ?_
  refine e_geti qX12_code_32 fl_X12_448 shq_206 kdq_11_44 h (fun v5 h => ?_)
  refine e_imul qX12_code_35 ?_
  refine e_iconst (nI 2) qX12_code_36 rfl ?_
  refine e_iadd qX12_code_37 ?_
  refine e_iload_n qX12_code_38 rfl ?_
  refine e_iast qX12_code_39 shq_210 lnq_210 h (fun s6 h => ?_)
  refine e_aload_n qX12_code_40 rfl ?_
  refine e_dup qX12_code_41 rfl ?_
  refine e_geti qX12_code_42 fl_X12_448 shq_206 kdq_11_44 h (fun v7 h => ?_)
  refine e_iconst (nI 1) qX12_code_45 rfl ?_
  refine e_iadd qX12_code_46 ?_
  refine e_puti qX12_code_47 fp_X12_448 shq_206 kdq_11_44 h (fun s8 h => ?_)
  exact e_vret qX12_code_50 rfl (ret_v h)

def f_X12_joins_L0 (N : Nat) (c1 : Int32) : Nat → St → Option (St)
  | 0, _ => none
  | n3 + 1, s2 =>
    vl (s2.1 206 46) fun v5 =>
    if v5 ≤ 0 then
      some s2
    else
    vl (s2.1 206 46) fun v6 =>
    ald (s2.1 220) 45 (v6 - (nI 1)) fun v7 =>
    jn (vl (s2.1 206 46) fun v9 =>
      vl (sI s2 206 46 (v9 - (nI 1))) fun s10 =>
      vl (s10.1 206 46) fun v11 =>
      ald (s10.1 220) 45 v11 fun v12 =>
      bp (f_X12_code v12 (nI 0) (nI 0) s10) fun s13 =>
      f_X12_joins_L0 N c1 n3 s13) fun j8 =>
    if v7 = (nI 21) then
      j8
    else
    vl (s2.1 206 46) fun v14 =>
    ald (s2.1 220) 45 (v14 - (nI 1)) fun v15 =>
    if v15 = (nI 22) then
      if c1 = (nI 22) then
        j8
      else
      some s2
    else
    some s2

def f_X12_joins (N : Nat) (x1 : Int32) (s0 : St) : Option (St) :=
  f_X12_joins_L0 N x1 N s0

theorem qX12_joins_0 : Dc mX12_joins 0 (.aload_n 0) 1 1 := ⟨by decide +kernel, rfl⟩
theorem qX12_joins_1 : Dc mX12_joins 1 (.getfield 451) 3 4 := ⟨by decide +kernel, rfl⟩
theorem qX12_joins_4 : Dc mX12_joins 4 (.ifCond .le 69) 3 7 := ⟨by decide +kernel, rfl⟩
theorem qX12_joins_7 : Dc mX12_joins 7 (.aload_n 0) 1 8 := ⟨by decide +kernel, rfl⟩
theorem qX12_joins_8 : Dc mX12_joins 8 (.getfield 72) 3 11 := ⟨by decide +kernel, rfl⟩
theorem qX12_joins_11 : Dc mX12_joins 11 (.aload_n 0) 1 12 := ⟨by decide +kernel, rfl⟩
theorem qX12_joins_12 : Dc mX12_joins 12 (.getfield 451) 3 15 := ⟨by decide +kernel, rfl⟩
theorem qX12_joins_15 : Dc mX12_joins 15 (.iconst 1) 1 16 := ⟨by decide +kernel, rfl⟩
theorem qX12_joins_16 : Dc mX12_joins 16 (.isub) 1 17 := ⟨by decide +kernel, rfl⟩
theorem qX12_joins_17 : Dc mX12_joins 17 (.iaload) 1 18 := ⟨by decide +kernel, rfl⟩
theorem qX12_joins_18 : Dc mX12_joins 18 (.bipush 21) 2 20 := ⟨by decide +kernel, rfl⟩
theorem qX12_joins_20 : Dc mX12_joins 20 (.if_icmp .eq 25) 3 23 := ⟨by decide +kernel, rfl⟩
theorem qX12_joins_23 : Dc mX12_joins 23 (.aload_n 0) 1 24 := ⟨by decide +kernel, rfl⟩
theorem qX12_joins_24 : Dc mX12_joins 24 (.getfield 72) 3 27 := ⟨by decide +kernel, rfl⟩
theorem qX12_joins_27 : Dc mX12_joins 27 (.aload_n 0) 1 28 := ⟨by decide +kernel, rfl⟩
theorem qX12_joins_28 : Dc mX12_joins 28 (.getfield 451) 3 31 := ⟨by decide +kernel, rfl⟩
theorem qX12_joins_31 : Dc mX12_joins 31 (.iconst 1) 1 32 := ⟨by decide +kernel, rfl⟩
theorem qX12_joins_32 : Dc mX12_joins 32 (.isub) 1 33 := ⟨by decide +kernel, rfl⟩
theorem qX12_joins_33 : Dc mX12_joins 33 (.iaload) 1 34 := ⟨by decide +kernel, rfl⟩
theorem qX12_joins_34 : Dc mX12_joins 34 (.bipush 22) 2 36 := ⟨by decide +kernel, rfl⟩
theorem qX12_joins_36 : Dc mX12_joins 36 (.if_icmp .ne 37) 3 39 := ⟨by decide +kernel, rfl⟩
theorem qX12_joins_39 : Dc mX12_joins 39 (.iload_n 1) 1 40 := ⟨by decide +kernel, rfl⟩
theorem qX12_joins_40 : Dc mX12_joins 40 (.bipush 22) 2 42 := ⟨by decide +kernel, rfl⟩
theorem qX12_joins_42 : Dc mX12_joins 42 (.if_icmp .ne 31) 3 45 := ⟨by decide +kernel, rfl⟩
theorem qX12_joins_45 : Dc mX12_joins 45 (.aload_n 0) 1 46 := ⟨by decide +kernel, rfl⟩
theorem qX12_joins_46 : Dc mX12_joins 46 (.dup) 1 47 := ⟨by decide +kernel, rfl⟩
theorem qX12_joins_47 : Dc mX12_joins 47 (.getfield 451) 3 50 := ⟨by decide +kernel, rfl⟩
theorem qX12_joins_50 : Dc mX12_joins 50 (.iconst 1) 1 51 := ⟨by decide +kernel, rfl⟩
theorem qX12_joins_51 : Dc mX12_joins 51 (.isub) 1 52 := ⟨by decide +kernel, rfl⟩
theorem qX12_joins_52 : Dc mX12_joins 52 (.putfield 451) 3 55 := ⟨by decide +kernel, rfl⟩
theorem qX12_joins_55 : Dc mX12_joins 55 (.aload_n 0) 1 56 := ⟨by decide +kernel, rfl⟩
theorem qX12_joins_56 : Dc mX12_joins 56 (.aload_n 0) 1 57 := ⟨by decide +kernel, rfl⟩
theorem qX12_joins_57 : Dc mX12_joins 57 (.getfield 72) 3 60 := ⟨by decide +kernel, rfl⟩
theorem qX12_joins_60 : Dc mX12_joins 60 (.aload_n 0) 1 61 := ⟨by decide +kernel, rfl⟩
theorem qX12_joins_61 : Dc mX12_joins 61 (.getfield 451) 3 64 := ⟨by decide +kernel, rfl⟩
theorem qX12_joins_64 : Dc mX12_joins 64 (.iaload) 1 65 := ⟨by decide +kernel, rfl⟩
theorem qX12_joins_65 : Dc mX12_joins 65 (.iconst 0) 1 66 := ⟨by decide +kernel, rfl⟩
theorem qX12_joins_66 : Dc mX12_joins 66 (.iconst 0) 1 67 := ⟨by decide +kernel, rfl⟩
theorem qX12_joins_67 : Dc mX12_joins 67 (.invokevirtual 454) 3 70 := ⟨by decide +kernel, rfl⟩
theorem qX12_joins_70 : Dc mX12_joins 70 (.goto (-70)) 3 73 := ⟨by decide +kernel, rfl⟩
theorem qX12_joins_73 : Dc mX12_joins 73 (.return_) 1 74 := ⟨by decide +kernel, rfl⟩

set_option maxRecDepth 20000 in
set_option maxHeartbeats 4000000 in
theorem w_X12_joins_L0 {N : Nat} {c1 : Int32}  {sr : St}   : ∀ (n3 : Nat) (s2 : St), f_X12_joins_L0 N c1 n3 s2 = some sr → E mX12_joins 1 (none, sr) 0 [some (.ref 206), some (.int c1)] [] s2 := by
  intro n3
  induction n3 with
  | zero =>
    intro s2 h
    rw [f_X12_joins_L0] at h; cases h
  | succ n3 ih4 =>
    intro s2 h
    rw [f_X12_joins_L0] at h
    refine e_aload_n qX12_joins_0 rfl ?_
    refine e_geti qX12_joins_1 fl_X12_451 shq_206 kdq_11_46 h (fun v5 h => ?_)
    refine e_if_le (tgt := 73) qX12_joins_4 rfl h (fun _ h => ?_) (fun _ h => ?_)
    · exact e_vret qX12_joins_73 rfl (ret_v h)
    refine e_aload_n qX12_joins_7 rfl ?_
    refine e_getr 220 qX12_joins_8 fl_X12_72 shq_206 kdq_11_43 rrq_206_43 ?_
    refine e_aload_n qX12_joins_11 rfl ?_
    refine e_geti qX12_joins_12 fl_X12_451 shq_206 kdq_11_46 h (fun v6 h => ?_)
    refine e_iconst (nI 1) qX12_joins_15 rfl ?_
    refine e_isub qX12_joins_16 ?_
    refine e_iald qX12_joins_17 shq_220 lnq_220 h (fun v7 h => ?_)
    refine e_bipush (nI 21) qX12_joins_18 rfl ?_
    refine jn_e (fun j => j = some sr → E mX12_joins 1 (none, sr) 45 [some (.ref 206), some (.int c1)] [] s2) h ?_ (fun j8 hj8 h => ?_)
    · intro h
      refine e_aload_n qX12_joins_45 rfl ?_
      refine e_dup qX12_joins_46 rfl ?_
      refine e_geti qX12_joins_47 fl_X12_451 shq_206 kdq_11_46 h (fun v9 h => ?_)
      refine e_iconst (nI 1) qX12_joins_50 rfl ?_
      refine e_isub qX12_joins_51 ?_
      refine e_puti qX12_joins_52 fp_X12_451 shq_206 kdq_11_46 h (fun s10 h => ?_)
      refine e_aload_n qX12_joins_55 rfl ?_
      refine e_aload_n qX12_joins_56 rfl ?_
      refine e_getr 220 qX12_joins_57 fl_X12_72 shq_206 kdq_11_43 rrq_206_43 ?_
      refine e_aload_n qX12_joins_60 rfl ?_
      refine e_geti qX12_joins_61 fl_X12_451 shq_206 kdq_11_46 h (fun v11 h => ?_)
      refine e_iald qX12_joins_64 shq_220 lnq_220 h (fun v12 h => ?_)
      refine e_iconst (nI 0) qX12_joins_65 rfl ?_
      refine e_iconst (nI 0) qX12_joins_66 rfl ?_
      obtain ⟨s13, hc, h⟩ := bp_e h
      refine e_cVv3 qX12_joins_67 mv_X12_454 shq_206 rfl rfl (w_X12_code hc) ?_
      refine e_goto (tgt := 0) qX12_joins_70 rfl ?_
      exact e_weak (ih4 _ h) ⟨Or.inr rfl, Or.inr rfl, trivial⟩
    refine e_icmp_eq (tgt := 45) qX12_joins_20 rfl h (fun _ h => ?_) (fun _ h => ?_)
    · exact e_weak (hj8 h) ⟨Or.inr rfl, Or.inr rfl, trivial⟩
    refine e_aload_n qX12_joins_23 rfl ?_
    refine e_getr 220 qX12_joins_24 fl_X12_72 shq_206 kdq_11_43 rrq_206_43 ?_
    refine e_aload_n qX12_joins_27 rfl ?_
    refine e_geti qX12_joins_28 fl_X12_451 shq_206 kdq_11_46 h (fun v14 h => ?_)
    refine e_iconst (nI 1) qX12_joins_31 rfl ?_
    refine e_isub qX12_joins_32 ?_
    refine e_iald qX12_joins_33 shq_220 lnq_220 h (fun v15 h => ?_)
    refine e_bipush (nI 22) qX12_joins_34 rfl ?_
    refine e_icmp_ne (tgt := 73) qX12_joins_36 rfl h (fun _ h => ?_) (fun _ h => ?_)
    · refine e_iload_n qX12_joins_39 rfl ?_
      refine e_bipush (nI 22) qX12_joins_40 rfl ?_
      refine e_icmp_ne (tgt := 73) qX12_joins_42 rfl h (fun _ h => ?_) (fun _ h => ?_)
      · exact e_weak (hj8 h) ⟨Or.inr rfl, Or.inr rfl, trivial⟩
      exact e_vret qX12_joins_73 rfl (ret_v h)
    exact e_vret qX12_joins_73 rfl (ret_v h)

set_option maxRecDepth 20000 in
set_option maxHeartbeats 4000000 in
theorem w_X12_joins {N : Nat} {x1 : Int32} {s0 : St} {sr : St} (h : f_X12_joins N x1 s0 = some sr) : Ct mX12_joins 1 [.ref 206, .int x1] s0 (none, sr) := by
  refine Ct.ofE (by decide +kernel) rfl ?_
  show E mX12_joins 1 (none, sr) 0 [some (.ref 206), some (.int x1)] [] s0
  unfold f_X12_joins at h
  exact e_weak (w_X12_joins_L0  _ _ h) ⟨Or.inr rfl, Or.inr rfl, trivial⟩

def f_X12_nots_L0 (N : Nat)  : Nat → St → Option (St)
  | 0, _ => none
  | n2 + 1, s1 =>
    vl (s1.1 206 46) fun v4 =>
    if v4 ≤ 0 then
      some s1
    else
    vl (s1.1 206 46) fun v5 =>
    ald (s1.1 220) 45 (v5 - (nI 1)) fun v6 =>
    if v6 = (nI 20) then
      vl (s1.1 206 46) fun v7 =>
      vl (sI s1 206 46 (v7 - (nI 1))) fun s8 =>
      vl (s8.1 206 47) fun v9 =>
      vl (sI s8 206 47 (v9 - (nI 1))) fun s10 =>
      bp (f_X12_code (nI 20) (nI 0) (nI 0) s10) fun s11 =>
      f_X12_nots_L0 N n2 s11
    else
    some s1

def f_X12_nots (N : Nat)  (s0 : St) : Option (St) :=
  f_X12_nots_L0 N N s0

theorem qX12_nots_0 : Dc mX12_nots 0 (.aload_n 0) 1 1 := ⟨by decide +kernel, rfl⟩
theorem qX12_nots_1 : Dc mX12_nots 1 (.getfield 451) 3 4 := ⟨by decide +kernel, rfl⟩
theorem qX12_nots_4 : Dc mX12_nots 4 (.ifCond .le 50) 3 7 := ⟨by decide +kernel, rfl⟩
theorem qX12_nots_7 : Dc mX12_nots 7 (.aload_n 0) 1 8 := ⟨by decide +kernel, rfl⟩
theorem qX12_nots_8 : Dc mX12_nots 8 (.getfield 72) 3 11 := ⟨by decide +kernel, rfl⟩
theorem qX12_nots_11 : Dc mX12_nots 11 (.aload_n 0) 1 12 := ⟨by decide +kernel, rfl⟩
theorem qX12_nots_12 : Dc mX12_nots 12 (.getfield 451) 3 15 := ⟨by decide +kernel, rfl⟩
theorem qX12_nots_15 : Dc mX12_nots 15 (.iconst 1) 1 16 := ⟨by decide +kernel, rfl⟩
theorem qX12_nots_16 : Dc mX12_nots 16 (.isub) 1 17 := ⟨by decide +kernel, rfl⟩
theorem qX12_nots_17 : Dc mX12_nots 17 (.iaload) 1 18 := ⟨by decide +kernel, rfl⟩
theorem qX12_nots_18 : Dc mX12_nots 18 (.bipush 20) 2 20 := ⟨by decide +kernel, rfl⟩
theorem qX12_nots_20 : Dc mX12_nots 20 (.if_icmp .ne 34) 3 23 := ⟨by decide +kernel, rfl⟩
theorem qX12_nots_23 : Dc mX12_nots 23 (.aload_n 0) 1 24 := ⟨by decide +kernel, rfl⟩
theorem qX12_nots_24 : Dc mX12_nots 24 (.dup) 1 25 := ⟨by decide +kernel, rfl⟩
theorem qX12_nots_25 : Dc mX12_nots 25 (.getfield 451) 3 28 := ⟨by decide +kernel, rfl⟩
theorem qX12_nots_28 : Dc mX12_nots 28 (.iconst 1) 1 29 := ⟨by decide +kernel, rfl⟩
theorem qX12_nots_29 : Dc mX12_nots 29 (.isub) 1 30 := ⟨by decide +kernel, rfl⟩
theorem qX12_nots_30 : Dc mX12_nots 30 (.putfield 451) 3 33 := ⟨by decide +kernel, rfl⟩
theorem qX12_nots_33 : Dc mX12_nots 33 (.aload_n 0) 1 34 := ⟨by decide +kernel, rfl⟩
theorem qX12_nots_34 : Dc mX12_nots 34 (.dup) 1 35 := ⟨by decide +kernel, rfl⟩
theorem qX12_nots_35 : Dc mX12_nots 35 (.getfield 458) 3 38 := ⟨by decide +kernel, rfl⟩
theorem qX12_nots_38 : Dc mX12_nots 38 (.iconst 1) 1 39 := ⟨by decide +kernel, rfl⟩
theorem qX12_nots_39 : Dc mX12_nots 39 (.isub) 1 40 := ⟨by decide +kernel, rfl⟩
theorem qX12_nots_40 : Dc mX12_nots 40 (.putfield 458) 3 43 := ⟨by decide +kernel, rfl⟩
theorem qX12_nots_43 : Dc mX12_nots 43 (.aload_n 0) 1 44 := ⟨by decide +kernel, rfl⟩
theorem qX12_nots_44 : Dc mX12_nots 44 (.bipush 20) 2 46 := ⟨by decide +kernel, rfl⟩
theorem qX12_nots_46 : Dc mX12_nots 46 (.iconst 0) 1 47 := ⟨by decide +kernel, rfl⟩
theorem qX12_nots_47 : Dc mX12_nots 47 (.iconst 0) 1 48 := ⟨by decide +kernel, rfl⟩
theorem qX12_nots_48 : Dc mX12_nots 48 (.invokevirtual 454) 3 51 := ⟨by decide +kernel, rfl⟩
theorem qX12_nots_51 : Dc mX12_nots 51 (.goto (-51)) 3 54 := ⟨by decide +kernel, rfl⟩
theorem qX12_nots_54 : Dc mX12_nots 54 (.return_) 1 55 := ⟨by decide +kernel, rfl⟩

set_option maxRecDepth 20000 in
set_option maxHeartbeats 4000000 in
theorem w_X12_nots_L0 {N : Nat}   {sr : St}   : ∀ (n2 : Nat) (s1 : St), f_X12_nots_L0 N n2 s1 = some sr → E mX12_nots 1 (none, sr) 0 [some (.ref 206)] [] s1 := by
  intro n2
  induction n2 with
  | zero =>
    intro s1 h
    rw [f_X12_nots_L0] at h; cases h
  | succ n2 ih3 =>
    intro s1 h
    rw [f_X12_nots_L0] at h
    refine e_aload_n qX12_nots_0 rfl ?_
    refine e_geti qX12_nots_1 fl_X12_451 shq_206 kdq_11_46 h (fun v4 h => ?_)
    refine e_if_le (tgt := 54) qX12_nots_4 rfl h (fun _ h => ?_) (fun _ h => ?_)
    · exact e_vret qX12_nots_54 rfl (ret_v h)
    refine e_aload_n qX12_nots_7 rfl ?_
    refine e_getr 220 qX12_nots_8 fl_X12_72 shq_206 kdq_11_43 rrq_206_43 ?_
    refine e_aload_n qX12_nots_11 rfl ?_
    refine e_geti qX12_nots_12 fl_X12_451 shq_206 kdq_11_46 h (fun v5 h => ?_)
    refine e_iconst (nI 1) qX12_nots_15 rfl ?_
    refine e_isub qX12_nots_16 ?_
    refine e_iald qX12_nots_17 shq_220 lnq_220 h (fun v6 h => ?_)
    refine e_bipush (nI 20) qX12_nots_18 rfl ?_
    refine e_icmp_ne (tgt := 54) qX12_nots_20 rfl h (fun _ h => ?_) (fun _ h => ?_)
    · refine e_aload_n qX12_nots_23 rfl ?_
      refine e_dup qX12_nots_24 rfl ?_
      refine e_geti qX12_nots_25 fl_X12_451 shq_206 kdq_11_46 h (fun v7 h => ?_)
      refine e_iconst (nI 1) qX12_nots_28 rfl ?_
      refine e_isub qX12_nots_29 ?_
      refine e_puti qX12_nots_30 fp_X12_451 shq_206 kdq_11_46 h (fun s8 h => ?_)
      refine e_aload_n qX12_nots_33 rfl ?_
      refine e_dup qX12_nots_34 rfl ?_
      refine e_geti qX12_nots_35 fl_X12_458 shq_206 kdq_11_47 h (fun v9 h => ?_)
      refine e_iconst (nI 1) qX12_nots_38 rfl ?_
      refine e_isub qX12_nots_39 ?_
      refine e_puti qX12_nots_40 fp_X12_458 shq_206 kdq_11_47 h (fun s10 h => ?_)
      refine e_aload_n qX12_nots_43 rfl ?_
      refine e_bipush (nI 20) qX12_nots_44 rfl ?_
      refine e_iconst (nI 0) qX12_nots_46 rfl ?_
      refine e_iconst (nI 0) qX12_nots_47 rfl ?_
      obtain ⟨s11, hc, h⟩ := bp_e h
      refine e_cVv3 qX12_nots_48 mv_X12_454 shq_206 rfl rfl (w_X12_code hc) ?_
      refine e_goto (tgt := 0) qX12_nots_51 rfl ?_
      exact e_weak (ih3 _ h) ⟨Or.inr rfl, trivial⟩
    exact e_vret qX12_nots_54 rfl (ret_v h)

set_option maxRecDepth 20000 in
set_option maxHeartbeats 4000000 in
theorem w_X12_nots {N : Nat}  {s0 : St} {sr : St} (h : f_X12_nots N  s0 = some sr) : Ct mX12_nots 1 [.ref 206] s0 (none, sr) := by
  refine Ct.ofE (by decide +kernel) rfl ?_
  show E mX12_nots 1 (none, sr) 0 [some (.ref 206)] [] s0
  unfold f_X12_nots at h
  exact e_weak (w_X12_nots_L0  _ _ h) ⟨Or.inr rfl, trivial⟩

def f_X12_leafOf  (s0 : St) : Option (Int32) :=
  bp (f_X12_isWord (7304564 : Int64) s0) fun v1 =>
  if v1 = 0 then
    bp (f_X12_isWord (32484424354983527 : Int64) s0) fun v2 =>
    if v2 = 0 then
      bp (f_X12_isWord (439856162148 : Int64) s0) fun v3 =>
      if v3 = 0 then
        bp (f_X12_isWord (1818848101 : Int64) s0) fun v4 =>
        if v4 = 0 then
          bp (f_X12_isWord (25209 : Int64) s0) fun v5 =>
          if v5 = 0 then
            bp (f_X12_isWord (7301484 : Int64) s0) fun v6 =>
            if v6 = 0 then
              bp (f_X12_isWord (123581013520228 : Int64) s0) fun v7 =>
              if v7 = 0 then
                bp (f_X12_isWord (491260897125 : Int64) s0) fun v8 =>
                if v8 = 0 then
                  bp (f_X12_isWord (121450625394034 : Int64) s0) fun v9 =>
                  if v9 = 0 then
                    some (-1)
                  else
                  some (nI 8)
                else
                some (nI 7)
              else
              some (nI 6)
            else
            some (nI 5)
          else
          some (nI 4)
        else
        some (nI 3)
      else
      some (nI 2)
    else
    some (nI 1)
  else
  some (nI 0)

theorem qX12_leafOf_0 : Dc mX12_leafOf 0 (.aload_n 0) 1 1 := ⟨by decide +kernel, rfl⟩
theorem qX12_leafOf_1 : Dc mX12_leafOf 1 (.ldc2_w 123) 3 4 := ⟨by decide +kernel, rfl⟩
theorem qX12_leafOf_4 : Dc mX12_leafOf 4 (.invokevirtual 208) 3 7 := ⟨by decide +kernel, rfl⟩
theorem qX12_leafOf_7 : Dc mX12_leafOf 7 (.ifCond .eq 7) 3 10 := ⟨by decide +kernel, rfl⟩
theorem qX12_leafOf_10 : Dc mX12_leafOf 10 (.iconst 0) 1 11 := ⟨by decide +kernel, rfl⟩
theorem qX12_leafOf_11 : Dc mX12_leafOf 11 (.goto 119) 3 14 := ⟨by decide +kernel, rfl⟩
theorem qX12_leafOf_14 : Dc mX12_leafOf 14 (.aload_n 0) 1 15 := ⟨by decide +kernel, rfl⟩
theorem qX12_leafOf_15 : Dc mX12_leafOf 15 (.ldc2_w 125) 3 18 := ⟨by decide +kernel, rfl⟩
theorem qX12_leafOf_18 : Dc mX12_leafOf 18 (.invokevirtual 208) 3 21 := ⟨by decide +kernel, rfl⟩
theorem qX12_leafOf_21 : Dc mX12_leafOf 21 (.ifCond .eq 7) 3 24 := ⟨by decide +kernel, rfl⟩
theorem qX12_leafOf_24 : Dc mX12_leafOf 24 (.iconst 1) 1 25 := ⟨by decide +kernel, rfl⟩
theorem qX12_leafOf_25 : Dc mX12_leafOf 25 (.goto 105) 3 28 := ⟨by decide +kernel, rfl⟩
theorem qX12_leafOf_28 : Dc mX12_leafOf 28 (.aload_n 0) 1 29 := ⟨by decide +kernel, rfl⟩
theorem qX12_leafOf_29 : Dc mX12_leafOf 29 (.ldc2_w 127) 3 32 := ⟨by decide +kernel, rfl⟩
theorem qX12_leafOf_32 : Dc mX12_leafOf 32 (.invokevirtual 208) 3 35 := ⟨by decide +kernel, rfl⟩
theorem qX12_leafOf_35 : Dc mX12_leafOf 35 (.ifCond .eq 7) 3 38 := ⟨by decide +kernel, rfl⟩
theorem qX12_leafOf_38 : Dc mX12_leafOf 38 (.iconst 2) 1 39 := ⟨by decide +kernel, rfl⟩
theorem qX12_leafOf_39 : Dc mX12_leafOf 39 (.goto 91) 3 42 := ⟨by decide +kernel, rfl⟩
theorem qX12_leafOf_42 : Dc mX12_leafOf 42 (.aload_n 0) 1 43 := ⟨by decide +kernel, rfl⟩
theorem qX12_leafOf_43 : Dc mX12_leafOf 43 (.ldc2_w 129) 3 46 := ⟨by decide +kernel, rfl⟩
theorem qX12_leafOf_46 : Dc mX12_leafOf 46 (.invokevirtual 208) 3 49 := ⟨by decide +kernel, rfl⟩
theorem qX12_leafOf_49 : Dc mX12_leafOf 49 (.ifCond .eq 7) 3 52 := ⟨by decide +kernel, rfl⟩
theorem qX12_leafOf_52 : Dc mX12_leafOf 52 (.iconst 3) 1 53 := ⟨by decide +kernel, rfl⟩
theorem qX12_leafOf_53 : Dc mX12_leafOf 53 (.goto 77) 3 56 := ⟨by decide +kernel, rfl⟩
theorem qX12_leafOf_56 : Dc mX12_leafOf 56 (.aload_n 0) 1 57 := ⟨by decide +kernel, rfl⟩
theorem qX12_leafOf_57 : Dc mX12_leafOf 57 (.ldc2_w 131) 3 60 := ⟨by decide +kernel, rfl⟩
theorem qX12_leafOf_60 : Dc mX12_leafOf 60 (.invokevirtual 208) 3 63 := ⟨by decide +kernel, rfl⟩
theorem qX12_leafOf_63 : Dc mX12_leafOf 63 (.ifCond .eq 7) 3 66 := ⟨by decide +kernel, rfl⟩
theorem qX12_leafOf_66 : Dc mX12_leafOf 66 (.iconst 4) 1 67 := ⟨by decide +kernel, rfl⟩
theorem qX12_leafOf_67 : Dc mX12_leafOf 67 (.goto 63) 3 70 := ⟨by decide +kernel, rfl⟩
theorem qX12_leafOf_70 : Dc mX12_leafOf 70 (.aload_n 0) 1 71 := ⟨by decide +kernel, rfl⟩
theorem qX12_leafOf_71 : Dc mX12_leafOf 71 (.ldc2_w 133) 3 74 := ⟨by decide +kernel, rfl⟩
theorem qX12_leafOf_74 : Dc mX12_leafOf 74 (.invokevirtual 208) 3 77 := ⟨by decide +kernel, rfl⟩
theorem qX12_leafOf_77 : Dc mX12_leafOf 77 (.ifCond .eq 7) 3 80 := ⟨by decide +kernel, rfl⟩
theorem qX12_leafOf_80 : Dc mX12_leafOf 80 (.iconst 5) 1 81 := ⟨by decide +kernel, rfl⟩
theorem qX12_leafOf_81 : Dc mX12_leafOf 81 (.goto 49) 3 84 := ⟨by decide +kernel, rfl⟩
theorem qX12_leafOf_84 : Dc mX12_leafOf 84 (.aload_n 0) 1 85 := ⟨by decide +kernel, rfl⟩
theorem qX12_leafOf_85 : Dc mX12_leafOf 85 (.ldc2_w 135) 3 88 := ⟨by decide +kernel, rfl⟩
theorem qX12_leafOf_88 : Dc mX12_leafOf 88 (.invokevirtual 208) 3 91 := ⟨by decide +kernel, rfl⟩
theorem qX12_leafOf_91 : Dc mX12_leafOf 91 (.ifCond .eq 8) 3 94 := ⟨by decide +kernel, rfl⟩
theorem qX12_leafOf_94 : Dc mX12_leafOf 94 (.bipush 6) 2 96 := ⟨by decide +kernel, rfl⟩
theorem qX12_leafOf_96 : Dc mX12_leafOf 96 (.goto 34) 3 99 := ⟨by decide +kernel, rfl⟩
theorem qX12_leafOf_99 : Dc mX12_leafOf 99 (.aload_n 0) 1 100 := ⟨by decide +kernel, rfl⟩
theorem qX12_leafOf_100 : Dc mX12_leafOf 100 (.ldc2_w 137) 3 103 := ⟨by decide +kernel, rfl⟩
theorem qX12_leafOf_103 : Dc mX12_leafOf 103 (.invokevirtual 208) 3 106 := ⟨by decide +kernel, rfl⟩
theorem qX12_leafOf_106 : Dc mX12_leafOf 106 (.ifCond .eq 8) 3 109 := ⟨by decide +kernel, rfl⟩
theorem qX12_leafOf_109 : Dc mX12_leafOf 109 (.bipush 7) 2 111 := ⟨by decide +kernel, rfl⟩
theorem qX12_leafOf_111 : Dc mX12_leafOf 111 (.goto 19) 3 114 := ⟨by decide +kernel, rfl⟩
theorem qX12_leafOf_114 : Dc mX12_leafOf 114 (.aload_n 0) 1 115 := ⟨by decide +kernel, rfl⟩
theorem qX12_leafOf_115 : Dc mX12_leafOf 115 (.ldc2_w 139) 3 118 := ⟨by decide +kernel, rfl⟩
theorem qX12_leafOf_118 : Dc mX12_leafOf 118 (.invokevirtual 208) 3 121 := ⟨by decide +kernel, rfl⟩
theorem qX12_leafOf_121 : Dc mX12_leafOf 121 (.ifCond .eq 8) 3 124 := ⟨by decide +kernel, rfl⟩
theorem qX12_leafOf_124 : Dc mX12_leafOf 124 (.bipush 8) 2 126 := ⟨by decide +kernel, rfl⟩
theorem qX12_leafOf_126 : Dc mX12_leafOf 126 (.goto 4) 3 129 := ⟨by decide +kernel, rfl⟩
theorem qX12_leafOf_129 : Dc mX12_leafOf 129 (.iconst (-1)) 1 130 := ⟨by decide +kernel, rfl⟩
theorem qX12_leafOf_130 : Dc mX12_leafOf 130 (.ireturn) 1 131 := ⟨by decide +kernel, rfl⟩

set_option maxRecDepth 20000 in
set_option maxHeartbeats 4000000 in
theorem w_X12_leafOf  {s0 : St} {r : Int32} (h : f_X12_leafOf  s0 = some r) : Ct mX12_leafOf 1 [.ref 206] s0 (some (.int r), s0) := by
  refine Ct.ofE (by decide +kernel) rfl ?_
  show E mX12_leafOf 1 (some (.int r), s0) 0 [some (.ref 206)] [] s0
  unfold f_X12_leafOf at h
  refine e_aload_n qX12_leafOf_0 rfl ?_
  refine e_ldc2 (7304564 : Int64) qX12_leafOf_1 cw_X12_123 ?_
  obtain ⟨v1, hc, h⟩ := bp_e h
  refine e_cVi1 qX12_leafOf_4 mv_X12_208 shq_206 rfl rfl (w_X12_isWord hc) ?_
  refine e_if_eq (tgt := 14) qX12_leafOf_7 rfl h (fun _ h => ?_) (fun _ h => ?_)
  · refine e_aload_n qX12_leafOf_14 rfl ?_
    refine e_ldc2 (32484424354983527 : Int64) qX12_leafOf_15 cw_X12_125 ?_
    obtain ⟨v2, hc, h⟩ := bp_e h
    refine e_cVi1 qX12_leafOf_18 mv_X12_208 shq_206 rfl rfl (w_X12_isWord hc) ?_
    refine e_if_eq (tgt := 28) qX12_leafOf_21 rfl h (fun _ h => ?_) (fun _ h => ?_)
    · refine e_aload_n qX12_leafOf_28 rfl ?_
      refine e_ldc2 (439856162148 : Int64) qX12_leafOf_29 cw_X12_127 ?_
      obtain ⟨v3, hc, h⟩ := bp_e h
      refine e_cVi1 qX12_leafOf_32 mv_X12_208 shq_206 rfl rfl (w_X12_isWord hc) ?_
      refine e_if_eq (tgt := 42) qX12_leafOf_35 rfl h (fun _ h => ?_) (fun _ h => ?_)
      · refine e_aload_n qX12_leafOf_42 rfl ?_
        refine e_ldc2 (1818848101 : Int64) qX12_leafOf_43 cw_X12_129 ?_
        obtain ⟨v4, hc, h⟩ := bp_e h
        refine e_cVi1 qX12_leafOf_46 mv_X12_208 shq_206 rfl rfl (w_X12_isWord hc) ?_
        refine e_if_eq (tgt := 56) qX12_leafOf_49 rfl h (fun _ h => ?_) (fun _ h => ?_)
        · refine e_aload_n qX12_leafOf_56 rfl ?_
          refine e_ldc2 (25209 : Int64) qX12_leafOf_57 cw_X12_131 ?_
          obtain ⟨v5, hc, h⟩ := bp_e h
          refine e_cVi1 qX12_leafOf_60 mv_X12_208 shq_206 rfl rfl (w_X12_isWord hc) ?_
          refine e_if_eq (tgt := 70) qX12_leafOf_63 rfl h (fun _ h => ?_) (fun _ h => ?_)
          · refine e_aload_n qX12_leafOf_70 rfl ?_
            refine e_ldc2 (7301484 : Int64) qX12_leafOf_71 cw_X12_133 ?_
            obtain ⟨v6, hc, h⟩ := bp_e h
            refine e_cVi1 qX12_leafOf_74 mv_X12_208 shq_206 rfl rfl (w_X12_isWord hc) ?_
            refine e_if_eq (tgt := 84) qX12_leafOf_77 rfl h (fun _ h => ?_) (fun _ h => ?_)
            · refine e_aload_n qX12_leafOf_84 rfl ?_
              refine e_ldc2 (123581013520228 : Int64) qX12_leafOf_85 cw_X12_135 ?_
              obtain ⟨v7, hc, h⟩ := bp_e h
              refine e_cVi1 qX12_leafOf_88 mv_X12_208 shq_206 rfl rfl (w_X12_isWord hc) ?_
              refine e_if_eq (tgt := 99) qX12_leafOf_91 rfl h (fun _ h => ?_) (fun _ h => ?_)
              · refine e_aload_n qX12_leafOf_99 rfl ?_
                refine e_ldc2 (491260897125 : Int64) qX12_leafOf_100 cw_X12_137 ?_
                obtain ⟨v8, hc, h⟩ := bp_e h
                refine e_cVi1 qX12_leafOf_103 mv_X12_208 shq_206 rfl rfl (w_X12_isWord hc) ?_
                refine e_if_eq (tgt := 114) qX12_leafOf_106 rfl h (fun _ h => ?_) (fun _ h => ?_)
                · refine e_aload_n qX12_leafOf_114 rfl ?_
                  refine e_ldc2 (121450625394034 : Int64) qX12_leafOf_115 cw_X12_139 ?_
                  obtain ⟨v9, hc, h⟩ := bp_e h
                  refine e_cVi1 qX12_leafOf_118 mv_X12_208 shq_206 rfl rfl (w_X12_isWord hc) ?_
                  refine e_if_eq (tgt := 129) qX12_leafOf_121 rfl h (fun _ h => ?_) (fun _ h => ?_)
                  · refine e_iconst (-1) qX12_leafOf_129 rfl ?_
                    exact e_iret qX12_leafOf_130 rfl (ret_p h)
                  refine e_bipush (nI 8) qX12_leafOf_124 rfl ?_
                  refine e_goto (tgt := 130) qX12_leafOf_126 rfl ?_
                  exact e_iret qX12_leafOf_130 rfl (ret_p h)
                refine e_bipush (nI 7) qX12_leafOf_109 rfl ?_
                refine e_goto (tgt := 130) qX12_leafOf_111 rfl ?_
                exact e_iret qX12_leafOf_130 rfl (ret_p h)
              refine e_bipush (nI 6) qX12_leafOf_94 rfl ?_
              refine e_goto (tgt := 130) qX12_leafOf_96 rfl ?_
              exact e_iret qX12_leafOf_130 rfl (ret_p h)
            refine e_iconst (nI 5) qX12_leafOf_80 rfl ?_
            refine e_goto (tgt := 130) qX12_leafOf_81 rfl ?_
            exact e_iret qX12_leafOf_130 rfl (ret_p h)
          refine e_iconst (nI 4) qX12_leafOf_66 rfl ?_
          refine e_goto (tgt := 130) qX12_leafOf_67 rfl ?_
          exact e_iret qX12_leafOf_130 rfl (ret_p h)
        refine e_iconst (nI 3) qX12_leafOf_52 rfl ?_
        refine e_goto (tgt := 130) qX12_leafOf_53 rfl ?_
        exact e_iret qX12_leafOf_130 rfl (ret_p h)
      refine e_iconst (nI 2) qX12_leafOf_38 rfl ?_
      refine e_goto (tgt := 130) qX12_leafOf_39 rfl ?_
      exact e_iret qX12_leafOf_130 rfl (ret_p h)
    refine e_iconst (nI 1) qX12_leafOf_24 rfl ?_
    refine e_goto (tgt := 130) qX12_leafOf_25 rfl ?_
    exact e_iret qX12_leafOf_130 rfl (ret_p h)
  refine e_iconst (nI 0) qX12_leafOf_10 rfl ?_
  refine e_goto (tgt := 130) qX12_leafOf_11 rfl ?_
  exact e_iret qX12_leafOf_130 rfl (ret_p h)

def f_X12_operand (N : Nat)  (s0 : St) : Option (Int32 × St) :=
  bp (f_X12_isWord (7237492 : Int64) s0) fun v1 =>
  bp (f_X12_isSign (nI 40) s0) fun v2 =>
  bp (f_X12_leafOf s0) fun v3 =>
  jn (vl (s0.1 206 45) fun v5 =>
    jn (bd (f_X12_bad (nI 4) s0) fun v7 s8 =>
      rz v7 <|
      some (v7, s8)) fun j6 =>
    if v5 = (nI 20) then
      j6
    else
    vl (s0.1 206 47) fun v9 =>
    if v9 ≤ (nI 8) then
      vl (s0.1 206 45) fun v10 =>
      vl (sI s0 206 45 (v10 + (nI 1))) fun s11 =>
      bp (f_X12_next N s11) fun s12 =>
      jn (vl (s12.1 206 46) fun v14 =>
        jn (fun (v15 : Int32) =>
          ald (fun j => sI s12 220 j v15) 45 v14 fun s17 =>
          vl (s17.1 206 46) fun v18 =>
          vl (sI s17 206 46 (v18 + (nI 1))) fun s19 =>
          vl (s19.1 206 47) fun v20 =>
          vl (sI s19 206 47 (v20 + (nI 1))) fun s21 =>
          some ((nI 1), s21)) fun j16 =>
        if v1 = 0 then
          j16 (nI 23)
        else
        j16 (nI 20)) fun j13 =>
      if v1 = 0 then
        if v2 = 0 then
          vl (sI s12 206 48 (nI 1)) fun s22 =>
          if (nI 3) ≤ v3 then
            if (nI 5) ≤ v3 then
              vl (s22.1 206 11) fun v23 =>
              jn (bd (f_X12_bad (nI 1) s22) fun v25 s26 =>
                rz v25 <|
                some (v25, s26)) fun j24 =>
              if v23 = (nI 3) then
                vl (s22.1 206 14) fun v27 =>
                if v27 < (nI 60) then
                  j24
                else
                vl (s22.1 206 14) fun v28 =>
                if v28 ≤ (nI 62) then
                  vl (s22.1 206 14) fun v29 =>
                  bp (f_X12_next N s22) fun s30 =>
                  vl (s30.1 206 11) fun v31 =>
                  if v31 = (nI 2) then
                    vl (s30.1 206 14) fun v32 =>
                    bp (f_X12_code v3 v29 v32 s30) fun s33 =>
                    bp (f_X12_next N s33) fun s34 =>
                    some ((nI 1), s34)
                  else
                  bd (f_X12_bad (nI 1) s30) fun v35 s36 =>
                  rz v35 <|
                  some (v35, s36)
                else
                j24
              else
              j24
            else
            jn (fun (v37 : Int32) (s38 : St) =>
              if v37 = 0 then
                some ((nI 0), s38)
              else
              vl (s38.1 206 18) fun v40 =>
              bp (f_X12_code v3 (nI 0) v40 s38) fun s41 =>
              bp (f_X12_next N s41) fun s42 =>
              some ((nI 1), s42)) fun j39 =>
            if v3 = (nI 3) then
              ald (s22.1 208) 359 (nI 0) fun v43 =>
              bd (f_X12_looksAt N (nI 0) v43 s22) fun v44 s45 =>
              j39 v44 s45
            else
            ald (s22.1 208) 359 (nI 1) fun v46 =>
            bd (f_X12_looksAt N (nI 8) v46 s22) fun v47 s48 =>
            j39 v47 s48
          else
          bp (f_X12_code v3 (nI 0) (nI 0) s22) fun s49 =>
          some ((nI 1), s49)
        else
        j13
      else
      j13
    else
    j6) fun j4 =>
  if v1 = 0 then
    if v2 = 0 then
      if 0 ≤ v3 then
        j4
      else
      bd (f_X12_bad (nI 1) s0) fun v50 s51 =>
      rz v50 <|
      some (v50, s51)
    else
    j4
  else
  j4

theorem qX12_operand_0 : Dc mX12_operand 0 (.aload_n 0) 1 1 := ⟨by decide +kernel, rfl⟩
theorem qX12_operand_1 : Dc mX12_operand 1 (.ldc2_w 121) 3 4 := ⟨by decide +kernel, rfl⟩
theorem qX12_operand_4 : Dc mX12_operand 4 (.invokevirtual 208) 3 7 := ⟨by decide +kernel, rfl⟩
theorem qX12_operand_7 : Dc mX12_operand 7 (.istore_n 1) 1 8 := ⟨by decide +kernel, rfl⟩
theorem qX12_operand_8 : Dc mX12_operand 8 (.aload_n 0) 1 9 := ⟨by decide +kernel, rfl⟩
theorem qX12_operand_9 : Dc mX12_operand 9 (.bipush 40) 2 11 := ⟨by decide +kernel, rfl⟩
theorem qX12_operand_11 : Dc mX12_operand 11 (.invokevirtual 177) 3 14 := ⟨by decide +kernel, rfl⟩
theorem qX12_operand_14 : Dc mX12_operand 14 (.istore_n 2) 1 15 := ⟨by decide +kernel, rfl⟩
theorem qX12_operand_15 : Dc mX12_operand 15 (.aload_n 0) 1 16 := ⟨by decide +kernel, rfl⟩
theorem qX12_operand_16 : Dc mX12_operand 16 (.invokevirtual 461) 3 19 := ⟨by decide +kernel, rfl⟩
theorem qX12_operand_19 : Dc mX12_operand 19 (.istore_n 3) 1 20 := ⟨by decide +kernel, rfl⟩
theorem qX12_operand_20 : Dc mX12_operand 20 (.iload_n 1) 1 21 := ⟨by decide +kernel, rfl⟩
theorem qX12_operand_21 : Dc mX12_operand 21 (.ifCond .ne 17) 3 24 := ⟨by decide +kernel, rfl⟩
theorem qX12_operand_24 : Dc mX12_operand 24 (.iload_n 2) 1 25 := ⟨by decide +kernel, rfl⟩
theorem qX12_operand_25 : Dc mX12_operand 25 (.ifCond .ne 13) 3 28 := ⟨by decide +kernel, rfl⟩
theorem qX12_operand_28 : Dc mX12_operand 28 (.iload_n 3) 1 29 := ⟨by decide +kernel, rfl⟩
theorem qX12_operand_29 : Dc mX12_operand 29 (.ifCond .ge 9) 3 32 := ⟨by decide +kernel, rfl⟩
theorem qX12_operand_32 : Dc mX12_operand 32 (.aload_n 0) 1 33 := ⟨by decide +kernel, rfl⟩
theorem qX12_operand_33 : Dc mX12_operand 33 (.iconst 1) 1 34 := ⟨by decide +kernel, rfl⟩
theorem qX12_operand_34 : Dc mX12_operand 34 (.invokevirtual 180) 3 37 := ⟨by decide +kernel, rfl⟩
theorem qX12_operand_37 : Dc mX12_operand 37 (.ireturn) 1 38 := ⟨by decide +kernel, rfl⟩
theorem qX12_operand_38 : Dc mX12_operand 38 (.aload_n 0) 1 39 := ⟨by decide +kernel, rfl⟩
theorem qX12_operand_39 : Dc mX12_operand 39 (.getfield 464) 3 42 := ⟨by decide +kernel, rfl⟩
theorem qX12_operand_42 : Dc mX12_operand 42 (.bipush 20) 2 44 := ⟨by decide +kernel, rfl⟩
theorem qX12_operand_44 : Dc mX12_operand 44 (.if_icmp .eq 12) 3 47 := ⟨by decide +kernel, rfl⟩
theorem qX12_operand_47 : Dc mX12_operand 47 (.aload_n 0) 1 48 := ⟨by decide +kernel, rfl⟩
theorem qX12_operand_48 : Dc mX12_operand 48 (.getfield 458) 3 51 := ⟨by decide +kernel, rfl⟩
theorem qX12_operand_51 : Dc mX12_operand 51 (.bipush 8) 2 53 := ⟨by decide +kernel, rfl⟩
theorem qX12_operand_53 : Dc mX12_operand 53 (.if_icmp .le 9) 3 56 := ⟨by decide +kernel, rfl⟩
theorem qX12_operand_56 : Dc mX12_operand 56 (.aload_n 0) 1 57 := ⟨by decide +kernel, rfl⟩
theorem qX12_operand_57 : Dc mX12_operand 57 (.iconst 4) 1 58 := ⟨by decide +kernel, rfl⟩
theorem qX12_operand_58 : Dc mX12_operand 58 (.invokevirtual 180) 3 61 := ⟨by decide +kernel, rfl⟩
theorem qX12_operand_61 : Dc mX12_operand 61 (.ireturn) 1 62 := ⟨by decide +kernel, rfl⟩
theorem qX12_operand_62 : Dc mX12_operand 62 (.aload_n 0) 1 63 := ⟨by decide +kernel, rfl⟩
theorem qX12_operand_63 : Dc mX12_operand 63 (.dup) 1 64 := ⟨by decide +kernel, rfl⟩
theorem qX12_operand_64 : Dc mX12_operand 64 (.getfield 464) 3 67 := ⟨by decide +kernel, rfl⟩
theorem qX12_operand_67 : Dc mX12_operand 67 (.iconst 1) 1 68 := ⟨by decide +kernel, rfl⟩
theorem qX12_operand_68 : Dc mX12_operand 68 (.iadd) 1 69 := ⟨by decide +kernel, rfl⟩
theorem qX12_operand_69 : Dc mX12_operand 69 (.putfield 464) 3 72 := ⟨by decide +kernel, rfl⟩
theorem qX12_operand_72 : Dc mX12_operand 72 (.aload_n 0) 1 73 := ⟨by decide +kernel, rfl⟩
theorem qX12_operand_73 : Dc mX12_operand 73 (.invokevirtual 183) 3 76 := ⟨by decide +kernel, rfl⟩
theorem qX12_operand_76 : Dc mX12_operand 76 (.iload_n 1) 1 77 := ⟨by decide +kernel, rfl⟩
theorem qX12_operand_77 : Dc mX12_operand 77 (.ifCond .ne 7) 3 80 := ⟨by decide +kernel, rfl⟩
theorem qX12_operand_80 : Dc mX12_operand 80 (.iload_n 2) 1 81 := ⟨by decide +kernel, rfl⟩
theorem qX12_operand_81 : Dc mX12_operand 81 (.ifCond .eq 45) 3 84 := ⟨by decide +kernel, rfl⟩
theorem qX12_operand_84 : Dc mX12_operand 84 (.aload_n 0) 1 85 := ⟨by decide +kernel, rfl⟩
theorem qX12_operand_85 : Dc mX12_operand 85 (.getfield 72) 3 88 := ⟨by decide +kernel, rfl⟩
theorem qX12_operand_88 : Dc mX12_operand 88 (.aload_n 0) 1 89 := ⟨by decide +kernel, rfl⟩
theorem qX12_operand_89 : Dc mX12_operand 89 (.getfield 451) 3 92 := ⟨by decide +kernel, rfl⟩
theorem qX12_operand_92 : Dc mX12_operand 92 (.iload_n 1) 1 93 := ⟨by decide +kernel, rfl⟩
theorem qX12_operand_93 : Dc mX12_operand 93 (.ifCond .eq 8) 3 96 := ⟨by decide +kernel, rfl⟩
theorem qX12_operand_96 : Dc mX12_operand 96 (.bipush 20) 2 98 := ⟨by decide +kernel, rfl⟩
theorem qX12_operand_98 : Dc mX12_operand 98 (.goto 5) 3 101 := ⟨by decide +kernel, rfl⟩
theorem qX12_operand_101 : Dc mX12_operand 101 (.bipush 23) 2 103 := ⟨by decide +kernel, rfl⟩
theorem qX12_operand_103 : Dc mX12_operand 103 (.iastore) 1 104 := ⟨by decide +kernel, rfl⟩
theorem qX12_operand_104 : Dc mX12_operand 104 (.aload_n 0) 1 105 := ⟨by decide +kernel, rfl⟩
theorem qX12_operand_105 : Dc mX12_operand 105 (.dup) 1 106 := ⟨by decide +kernel, rfl⟩
theorem qX12_operand_106 : Dc mX12_operand 106 (.getfield 451) 3 109 := ⟨by decide +kernel, rfl⟩
theorem qX12_operand_109 : Dc mX12_operand 109 (.iconst 1) 1 110 := ⟨by decide +kernel, rfl⟩
theorem qX12_operand_110 : Dc mX12_operand 110 (.iadd) 1 111 := ⟨by decide +kernel, rfl⟩
theorem qX12_operand_111 : Dc mX12_operand 111 (.putfield 451) 3 114 := ⟨by decide +kernel, rfl⟩
theorem qX12_operand_114 : Dc mX12_operand 114 (.aload_n 0) 1 115 := ⟨by decide +kernel, rfl⟩
theorem qX12_operand_115 : Dc mX12_operand 115 (.dup) 1 116 := ⟨by decide +kernel, rfl⟩
theorem qX12_operand_116 : Dc mX12_operand 116 (.getfield 458) 3 119 := ⟨by decide +kernel, rfl⟩
theorem qX12_operand_119 : Dc mX12_operand 119 (.iconst 1) 1 120 := ⟨by decide +kernel, rfl⟩
theorem qX12_operand_120 : Dc mX12_operand 120 (.iadd) 1 121 := ⟨by decide +kernel, rfl⟩
theorem qX12_operand_121 : Dc mX12_operand 121 (.putfield 458) 3 124 := ⟨by decide +kernel, rfl⟩
theorem qX12_operand_124 : Dc mX12_operand 124 (.iconst 1) 1 125 := ⟨by decide +kernel, rfl⟩
theorem qX12_operand_125 : Dc mX12_operand 125 (.ireturn) 1 126 := ⟨by decide +kernel, rfl⟩
theorem qX12_operand_126 : Dc mX12_operand 126 (.aload_n 0) 1 127 := ⟨by decide +kernel, rfl⟩
theorem qX12_operand_127 : Dc mX12_operand 127 (.iconst 1) 1 128 := ⟨by decide +kernel, rfl⟩
theorem qX12_operand_128 : Dc mX12_operand 128 (.putfield 467) 3 131 := ⟨by decide +kernel, rfl⟩
theorem qX12_operand_131 : Dc mX12_operand 131 (.iload_n 3) 1 132 := ⟨by decide +kernel, rfl⟩
theorem qX12_operand_132 : Dc mX12_operand 132 (.iconst 3) 1 133 := ⟨by decide +kernel, rfl⟩
theorem qX12_operand_133 : Dc mX12_operand 133 (.if_icmp .ge 12) 3 136 := ⟨by decide +kernel, rfl⟩
theorem qX12_operand_136 : Dc mX12_operand 136 (.aload_n 0) 1 137 := ⟨by decide +kernel, rfl⟩
theorem qX12_operand_137 : Dc mX12_operand 137 (.iload_n 3) 1 138 := ⟨by decide +kernel, rfl⟩
theorem qX12_operand_138 : Dc mX12_operand 138 (.iconst 0) 1 139 := ⟨by decide +kernel, rfl⟩
theorem qX12_operand_139 : Dc mX12_operand 139 (.iconst 0) 1 140 := ⟨by decide +kernel, rfl⟩
theorem qX12_operand_140 : Dc mX12_operand 140 (.invokevirtual 454) 3 143 := ⟨by decide +kernel, rfl⟩
theorem qX12_operand_143 : Dc mX12_operand 143 (.iconst 1) 1 144 := ⟨by decide +kernel, rfl⟩
theorem qX12_operand_144 : Dc mX12_operand 144 (.ireturn) 1 145 := ⟨by decide +kernel, rfl⟩
theorem qX12_operand_145 : Dc mX12_operand 145 (.iload_n 3) 1 146 := ⟨by decide +kernel, rfl⟩
theorem qX12_operand_146 : Dc mX12_operand 146 (.iconst 5) 1 147 := ⟨by decide +kernel, rfl⟩
theorem qX12_operand_147 : Dc mX12_operand 147 (.if_icmp .ge 59) 3 150 := ⟨by decide +kernel, rfl⟩
theorem qX12_operand_150 : Dc mX12_operand 150 (.iload_n 3) 1 151 := ⟨by decide +kernel, rfl⟩
theorem qX12_operand_151 : Dc mX12_operand 151 (.iconst 3) 1 152 := ⟨by decide +kernel, rfl⟩
theorem qX12_operand_152 : Dc mX12_operand 152 (.if_icmp .ne 17) 3 155 := ⟨by decide +kernel, rfl⟩
theorem qX12_operand_155 : Dc mX12_operand 155 (.aload_n 0) 1 156 := ⟨by decide +kernel, rfl⟩
theorem qX12_operand_156 : Dc mX12_operand 156 (.iconst 0) 1 157 := ⟨by decide +kernel, rfl⟩
theorem qX12_operand_157 : Dc mX12_operand 157 (.aload_n 0) 1 158 := ⟨by decide +kernel, rfl⟩
theorem qX12_operand_158 : Dc mX12_operand 158 (.getfield 33) 3 161 := ⟨by decide +kernel, rfl⟩
theorem qX12_operand_161 : Dc mX12_operand 161 (.iconst 0) 1 162 := ⟨by decide +kernel, rfl⟩
theorem qX12_operand_162 : Dc mX12_operand 162 (.iaload) 1 163 := ⟨by decide +kernel, rfl⟩
theorem qX12_operand_163 : Dc mX12_operand 163 (.invokevirtual 205) 3 166 := ⟨by decide +kernel, rfl⟩
theorem qX12_operand_166 : Dc mX12_operand 166 (.goto 15) 3 169 := ⟨by decide +kernel, rfl⟩
theorem qX12_operand_169 : Dc mX12_operand 169 (.aload_n 0) 1 170 := ⟨by decide +kernel, rfl⟩
theorem qX12_operand_170 : Dc mX12_operand 170 (.bipush 8) 2 172 := ⟨by decide +kernel, rfl⟩
theorem qX12_operand_172 : Dc mX12_operand 172 (.aload_n 0) 1 173 := ⟨by decide +kernel, rfl⟩
theorem qX12_operand_173 : Dc mX12_operand 173 (.getfield 33) 3 176 := ⟨by decide +kernel, rfl⟩
theorem qX12_operand_176 : Dc mX12_operand 176 (.iconst 1) 1 177 := ⟨by decide +kernel, rfl⟩
theorem qX12_operand_177 : Dc mX12_operand 177 (.iaload) 1 178 := ⟨by decide +kernel, rfl⟩
theorem qX12_operand_178 : Dc mX12_operand 178 (.invokevirtual 205) 3 181 := ⟨by decide +kernel, rfl⟩
theorem qX12_operand_181 : Dc mX12_operand 181 (.istore 4) 2 183 := ⟨by decide +kernel, rfl⟩
theorem qX12_operand_183 : Dc mX12_operand 183 (.iload 4) 2 185 := ⟨by decide +kernel, rfl⟩
theorem qX12_operand_185 : Dc mX12_operand 185 (.ifCond .ne 5) 3 188 := ⟨by decide +kernel, rfl⟩
theorem qX12_operand_188 : Dc mX12_operand 188 (.iconst 0) 1 189 := ⟨by decide +kernel, rfl⟩
theorem qX12_operand_189 : Dc mX12_operand 189 (.ireturn) 1 190 := ⟨by decide +kernel, rfl⟩
theorem qX12_operand_190 : Dc mX12_operand 190 (.aload_n 0) 1 191 := ⟨by decide +kernel, rfl⟩
theorem qX12_operand_191 : Dc mX12_operand 191 (.iload_n 3) 1 192 := ⟨by decide +kernel, rfl⟩
theorem qX12_operand_192 : Dc mX12_operand 192 (.iconst 0) 1 193 := ⟨by decide +kernel, rfl⟩
theorem qX12_operand_193 : Dc mX12_operand 193 (.aload_n 0) 1 194 := ⟨by decide +kernel, rfl⟩
theorem qX12_operand_194 : Dc mX12_operand 194 (.getfield 190) 3 197 := ⟨by decide +kernel, rfl⟩
theorem qX12_operand_197 : Dc mX12_operand 197 (.invokevirtual 454) 3 200 := ⟨by decide +kernel, rfl⟩
theorem qX12_operand_200 : Dc mX12_operand 200 (.aload_n 0) 1 201 := ⟨by decide +kernel, rfl⟩
theorem qX12_operand_201 : Dc mX12_operand 201 (.invokevirtual 183) 3 204 := ⟨by decide +kernel, rfl⟩
theorem qX12_operand_204 : Dc mX12_operand 204 (.iconst 1) 1 205 := ⟨by decide +kernel, rfl⟩
theorem qX12_operand_205 : Dc mX12_operand 205 (.ireturn) 1 206 := ⟨by decide +kernel, rfl⟩
theorem qX12_operand_206 : Dc mX12_operand 206 (.aload_n 0) 1 207 := ⟨by decide +kernel, rfl⟩
theorem qX12_operand_207 : Dc mX12_operand 207 (.getfield 154) 3 210 := ⟨by decide +kernel, rfl⟩
theorem qX12_operand_210 : Dc mX12_operand 210 (.iconst 3) 1 211 := ⟨by decide +kernel, rfl⟩
theorem qX12_operand_211 : Dc mX12_operand 211 (.if_icmp .ne 21) 3 214 := ⟨by decide +kernel, rfl⟩
theorem qX12_operand_214 : Dc mX12_operand 214 (.aload_n 0) 1 215 := ⟨by decide +kernel, rfl⟩
theorem qX12_operand_215 : Dc mX12_operand 215 (.getfield 164) 3 218 := ⟨by decide +kernel, rfl⟩
theorem qX12_operand_218 : Dc mX12_operand 218 (.bipush 60) 2 220 := ⟨by decide +kernel, rfl⟩
theorem qX12_operand_220 : Dc mX12_operand 220 (.if_icmp .lt 12) 3 223 := ⟨by decide +kernel, rfl⟩
theorem qX12_operand_223 : Dc mX12_operand 223 (.aload_n 0) 1 224 := ⟨by decide +kernel, rfl⟩
theorem qX12_operand_224 : Dc mX12_operand 224 (.getfield 164) 3 227 := ⟨by decide +kernel, rfl⟩
theorem qX12_operand_227 : Dc mX12_operand 227 (.bipush 62) 2 229 := ⟨by decide +kernel, rfl⟩
theorem qX12_operand_229 : Dc mX12_operand 229 (.if_icmp .le 9) 3 232 := ⟨by decide +kernel, rfl⟩
theorem qX12_operand_232 : Dc mX12_operand 232 (.aload_n 0) 1 233 := ⟨by decide +kernel, rfl⟩
theorem qX12_operand_233 : Dc mX12_operand 233 (.iconst 1) 1 234 := ⟨by decide +kernel, rfl⟩
theorem qX12_operand_234 : Dc mX12_operand 234 (.invokevirtual 180) 3 237 := ⟨by decide +kernel, rfl⟩
theorem qX12_operand_237 : Dc mX12_operand 237 (.ireturn) 1 238 := ⟨by decide +kernel, rfl⟩
theorem qX12_operand_238 : Dc mX12_operand 238 (.aload_n 0) 1 239 := ⟨by decide +kernel, rfl⟩
theorem qX12_operand_239 : Dc mX12_operand 239 (.getfield 164) 3 242 := ⟨by decide +kernel, rfl⟩
theorem qX12_operand_242 : Dc mX12_operand 242 (.istore 4) 2 244 := ⟨by decide +kernel, rfl⟩
theorem qX12_operand_244 : Dc mX12_operand 244 (.aload_n 0) 1 245 := ⟨by decide +kernel, rfl⟩
theorem qX12_operand_245 : Dc mX12_operand 245 (.invokevirtual 183) 3 248 := ⟨by decide +kernel, rfl⟩
theorem qX12_operand_248 : Dc mX12_operand 248 (.aload_n 0) 1 249 := ⟨by decide +kernel, rfl⟩
theorem qX12_operand_249 : Dc mX12_operand 249 (.getfield 154) 3 252 := ⟨by decide +kernel, rfl⟩
theorem qX12_operand_252 : Dc mX12_operand 252 (.iconst 2) 1 253 := ⟨by decide +kernel, rfl⟩
theorem qX12_operand_253 : Dc mX12_operand 253 (.if_icmp .eq 9) 3 256 := ⟨by decide +kernel, rfl⟩
theorem qX12_operand_256 : Dc mX12_operand 256 (.aload_n 0) 1 257 := ⟨by decide +kernel, rfl⟩
theorem qX12_operand_257 : Dc mX12_operand 257 (.iconst 1) 1 258 := ⟨by decide +kernel, rfl⟩
theorem qX12_operand_258 : Dc mX12_operand 258 (.invokevirtual 180) 3 261 := ⟨by decide +kernel, rfl⟩
theorem qX12_operand_261 : Dc mX12_operand 261 (.ireturn) 1 262 := ⟨by decide +kernel, rfl⟩
theorem qX12_operand_262 : Dc mX12_operand 262 (.aload_n 0) 1 263 := ⟨by decide +kernel, rfl⟩
theorem qX12_operand_263 : Dc mX12_operand 263 (.iload_n 3) 1 264 := ⟨by decide +kernel, rfl⟩
theorem qX12_operand_264 : Dc mX12_operand 264 (.iload 4) 2 266 := ⟨by decide +kernel, rfl⟩
theorem qX12_operand_266 : Dc mX12_operand 266 (.aload_n 0) 1 267 := ⟨by decide +kernel, rfl⟩
theorem qX12_operand_267 : Dc mX12_operand 267 (.getfield 164) 3 270 := ⟨by decide +kernel, rfl⟩
theorem qX12_operand_270 : Dc mX12_operand 270 (.invokevirtual 454) 3 273 := ⟨by decide +kernel, rfl⟩
theorem qX12_operand_273 : Dc mX12_operand 273 (.aload_n 0) 1 274 := ⟨by decide +kernel, rfl⟩
theorem qX12_operand_274 : Dc mX12_operand 274 (.invokevirtual 183) 3 277 := ⟨by decide +kernel, rfl⟩
theorem qX12_operand_277 : Dc mX12_operand 277 (.iconst 1) 1 278 := ⟨by decide +kernel, rfl⟩
theorem qX12_operand_278 : Dc mX12_operand 278 (.ireturn) 1 279 := ⟨by decide +kernel, rfl⟩

set_option maxRecDepth 20000 in
set_option maxHeartbeats 4000000 in
theorem w_X12_operand {N : Nat}  {s0 : St} {r : Int32} {sr : St} (h : f_X12_operand N  s0 = some (r, sr)) : Ct mX12_operand 2 [.ref 206] s0 (some (.int r), sr) := by
  refine Ct.ofE (by decide +kernel) rfl ?_
  show E mX12_operand 2 (some (.int r), sr) 0 [some (.ref 206), none, none, none, none] [] s0
  unfold f_X12_operand at h
  refine e_aload_n qX12_operand_0 rfl ?_
  refine e_ldc2 (7237492 : Int64) qX12_operand_1 cw_X12_121 ?_
  obtain ⟨v1, hc, h⟩ := bp_e h
  refine e_cVi1 qX12_operand_4 mv_X12_208 shq_206 rfl rfl (w_X12_isWord hc) ?_
  refine e_istore_n (lv2 := [some (.ref 206), some (.int v1), none, none, none]) qX12_operand_7 rfl rfl rfl ?_
  refine e_aload_n qX12_operand_8 rfl ?_
  refine e_bipush (nI 40) qX12_operand_9 rfl ?_
  obtain ⟨v2, hc, h⟩ := bp_e h
  refine e_cVi1 qX12_operand_11 mv_X12_177 shq_206 rfl rfl (w_X12_isSign hc) ?_
  refine e_istore_n (lv2 := [some (.ref 206), some (.int v1), some (.int v2), none, none]) qX12_operand_14 rfl rfl rfl ?_
  refine e_aload_n qX12_operand_15 rfl ?_
  obtain ⟨v3, hc, h⟩ := bp_e h
  refine e_cVi0 qX12_operand_16 mv_X12_461 shq_206 rfl rfl (w_X12_leafOf hc) ?_
  refine e_istore_n (lv2 := [some (.ref 206), some (.int v1), some (.int v2), some (.int v3), none]) qX12_operand_19 rfl rfl rfl ?_
  refine e_iload_n qX12_operand_20 rfl ?_
  refine jn_e (fun j => j = some (r, sr) → E mX12_operand 2 (some (.int r), sr) 38 [some (.ref 206), some (.int v1), some (.int v2), some (.int v3), none] [] s0) h ?_ (fun j4 hj4 h => ?_)
  · intro h
    refine e_aload_n qX12_operand_38 rfl ?_
    refine e_geti qX12_operand_39 fl_X12_464 shq_206 kdq_11_45 h (fun v5 h => ?_)
    refine e_bipush (nI 20) qX12_operand_42 rfl ?_
    refine jn_e (fun j => j = some (r, sr) → E mX12_operand 2 (some (.int r), sr) 56 [some (.ref 206), none, none, none, none] [] s0) h ?_ (fun j6 hj6 h => ?_)
    · intro h
      refine e_aload_n qX12_operand_56 rfl ?_
      refine e_iconst (nI 4) qX12_operand_57 rfl ?_
      obtain ⟨v7, s8, hc, h⟩ := bd_e h
      refine e_cVi1 qX12_operand_58 mv_X12_180 shq_206 rfl rfl (w_X12_bad hc) ?_
      refine rz_e h (fun hz h => ?_)
      exact e_zret qX12_operand_61 rfl hz (ret_i h)
    refine e_icmp_eq (tgt := 56) qX12_operand_44 rfl h (fun _ h => ?_) (fun _ h => ?_)
    · exact e_weak (hj6 h) ⟨Or.inr rfl, Or.inl rfl, Or.inl rfl, Or.inl rfl, Or.inl rfl, trivial⟩
    refine e_aload_n qX12_operand_47 rfl ?_
    refine e_geti qX12_operand_48 fl_X12_458 shq_206 kdq_11_47 h (fun v9 h => ?_)
    refine e_bipush (nI 8) qX12_operand_51 rfl ?_
    refine e_icmp_le (tgt := 62) qX12_operand_53 rfl h (fun _ h => ?_) (fun _ h => ?_)
    · refine e_aload_n qX12_operand_62 rfl ?_
      refine e_dup qX12_operand_63 rfl ?_
      refine e_geti qX12_operand_64 fl_X12_464 shq_206 kdq_11_45 h (fun v10 h => ?_)
      refine e_iconst (nI 1) qX12_operand_67 rfl ?_
      refine e_iadd qX12_operand_68 ?_
      refine e_puti qX12_operand_69 fp_X12_464 shq_206 kdq_11_45 h (fun s11 h => ?_)
      refine e_aload_n qX12_operand_72 rfl ?_
      obtain ⟨s12, hc, h⟩ := bp_e h
      refine e_cVv0 qX12_operand_73 mv_X12_183 shq_206 rfl rfl (w_X12_next hc) ?_
      refine e_iload_n qX12_operand_76 rfl ?_
      refine jn_e (fun j => j = some (r, sr) → E mX12_operand 2 (some (.int r), sr) 84 [some (.ref 206), some (.int v1), none, none, none] [] s12) h ?_ (fun j13 hj13 h => ?_)
      · intro h
        refine e_aload_n qX12_operand_84 rfl ?_
        refine e_getr 220 qX12_operand_85 fl_X12_72 shq_206 kdq_11_43 rrq_206_43 ?_
        refine e_aload_n qX12_operand_88 rfl ?_
        refine e_geti qX12_operand_89 fl_X12_451 shq_206 kdq_11_46 h (fun v14 h => ?_)
        refine e_iload_n qX12_operand_92 rfl ?_
        refine jn_e (fun j => ∀ (v15 : Int32), j v15 = some (r, sr) → E mX12_operand 2 (some (.int r), sr) 103 [some (.ref 206), none, none, none, none] [.int v15, .int v14, .ref 220] s12) h ?_ (fun j16 hj16 h => ?_)
        · intro v15 h
          refine e_iast qX12_operand_103 shq_220 lnq_220 h (fun s17 h => ?_)
          refine e_aload_n qX12_operand_104 rfl ?_
          refine e_dup qX12_operand_105 rfl ?_
          refine e_geti qX12_operand_106 fl_X12_451 shq_206 kdq_11_46 h (fun v18 h => ?_)
          refine e_iconst (nI 1) qX12_operand_109 rfl ?_
          refine e_iadd qX12_operand_110 ?_
          refine e_puti qX12_operand_111 fp_X12_451 shq_206 kdq_11_46 h (fun s19 h => ?_)
          refine e_aload_n qX12_operand_114 rfl ?_
          refine e_dup qX12_operand_115 rfl ?_
          refine e_geti qX12_operand_116 fl_X12_458 shq_206 kdq_11_47 h (fun v20 h => ?_)
          refine e_iconst (nI 1) qX12_operand_119 rfl ?_
          refine e_iadd qX12_operand_120 ?_
          refine e_puti qX12_operand_121 fp_X12_458 shq_206 kdq_11_47 h (fun s21 h => ?_)
          refine e_iconst (nI 1) qX12_operand_124 rfl ?_
          exact e_zret qX12_operand_125 rfl (by decide) (ret_i h)
        refine e_if_eq (tgt := 101) qX12_operand_93 rfl h (fun _ h => ?_) (fun _ h => ?_)
        · refine e_bipush (nI 23) qX12_operand_101 rfl ?_
          exact e_weak (hj16 _ h) ⟨Or.inr rfl, Or.inl rfl, Or.inl rfl, Or.inl rfl, Or.inl rfl, trivial⟩
        refine e_bipush (nI 20) qX12_operand_96 rfl ?_
        refine e_goto (tgt := 103) qX12_operand_98 rfl ?_
        exact e_weak (hj16 _ h) ⟨Or.inr rfl, Or.inl rfl, Or.inl rfl, Or.inl rfl, Or.inl rfl, trivial⟩
      refine e_if_ne (tgt := 84) qX12_operand_77 rfl h (fun _ h => ?_) (fun _ h => ?_)
      · refine e_iload_n qX12_operand_80 rfl ?_
        refine e_if_eq (tgt := 126) qX12_operand_81 rfl h (fun _ h => ?_) (fun _ h => ?_)
        · refine e_aload_n qX12_operand_126 rfl ?_
          refine e_iconst (nI 1) qX12_operand_127 rfl ?_
          refine e_putz qX12_operand_128 fp_X12_467 shq_206 kdq_11_48 (by decide) h (fun s22 h => ?_)
          refine e_iload_n qX12_operand_131 rfl ?_
          refine e_iconst (nI 3) qX12_operand_132 rfl ?_
          refine e_icmp_ge (tgt := 145) qX12_operand_133 rfl h (fun _ h => ?_) (fun _ h => ?_)
          · refine e_iload_n qX12_operand_145 rfl ?_
            refine e_iconst (nI 5) qX12_operand_146 rfl ?_
            refine e_icmp_ge (tgt := 206) qX12_operand_147 rfl h (fun _ h => ?_) (fun _ h => ?_)
            · refine e_aload_n qX12_operand_206 rfl ?_
              refine e_geti qX12_operand_207 fl_X12_154 shq_206 kdq_11_11 h (fun v23 h => ?_)
              refine e_iconst (nI 3) qX12_operand_210 rfl ?_
              refine jn_e (fun j => j = some (r, sr) → E mX12_operand 2 (some (.int r), sr) 232 [some (.ref 206), none, none, none, none] [] s22) h ?_ (fun j24 hj24 h => ?_)
              · intro h
                refine e_aload_n qX12_operand_232 rfl ?_
                refine e_iconst (nI 1) qX12_operand_233 rfl ?_
                obtain ⟨v25, s26, hc, h⟩ := bd_e h
                refine e_cVi1 qX12_operand_234 mv_X12_180 shq_206 rfl rfl (w_X12_bad hc) ?_
                refine rz_e h (fun hz h => ?_)
                exact e_zret qX12_operand_237 rfl hz (ret_i h)
              refine e_icmp_ne (tgt := 232) qX12_operand_211 rfl h (fun _ h => ?_) (fun _ h => ?_)
              · refine e_aload_n qX12_operand_214 rfl ?_
                refine e_geti qX12_operand_215 fl_X12_164 shq_206 kdq_11_14 h (fun v27 h => ?_)
                refine e_bipush (nI 60) qX12_operand_218 rfl ?_
                refine e_icmp_lt (tgt := 232) qX12_operand_220 rfl h (fun _ h => ?_) (fun _ h => ?_)
                · exact e_weak (hj24 h) ⟨Or.inr rfl, Or.inl rfl, Or.inl rfl, Or.inl rfl, Or.inl rfl, trivial⟩
                refine e_aload_n qX12_operand_223 rfl ?_
                refine e_geti qX12_operand_224 fl_X12_164 shq_206 kdq_11_14 h (fun v28 h => ?_)
                refine e_bipush (nI 62) qX12_operand_227 rfl ?_
                refine e_icmp_le (tgt := 238) qX12_operand_229 rfl h (fun _ h => ?_) (fun _ h => ?_)
                · refine e_aload_n qX12_operand_238 rfl ?_
                  refine e_geti qX12_operand_239 fl_X12_164 shq_206 kdq_11_14 h (fun v29 h => ?_)
                  refine e_istore (lv2 := [some (.ref 206), some (.int v1), some (.int v2), some (.int v3), some (.int v29)]) qX12_operand_242 rfl rfl rfl ?_
                  refine e_aload_n qX12_operand_244 rfl ?_
                  obtain ⟨s30, hc, h⟩ := bp_e h
                  refine e_cVv0 qX12_operand_245 mv_X12_183 shq_206 rfl rfl (w_X12_next hc) ?_
                  refine e_aload_n qX12_operand_248 rfl ?_
                  refine e_geti qX12_operand_249 fl_X12_154 shq_206 kdq_11_11 h (fun v31 h => ?_)
                  refine e_iconst (nI 2) qX12_operand_252 rfl ?_
                  refine e_icmp_eq (tgt := 262) qX12_operand_253 rfl h (fun _ h => ?_) (fun _ h => ?_)
                  · refine e_aload_n qX12_operand_262 rfl ?_
                    refine e_iload_n qX12_operand_263 rfl ?_
                    refine e_iload qX12_operand_264 rfl ?_
                    refine e_aload_n qX12_operand_266 rfl ?_
                    refine e_geti qX12_operand_267 fl_X12_164 shq_206 kdq_11_14 h (fun v32 h => ?_)
                    obtain ⟨s33, hc, h⟩ := bp_e h
                    refine e_cVv3 qX12_operand_270 mv_X12_454 shq_206 rfl rfl (w_X12_code hc) ?_
                    refine e_aload_n qX12_operand_273 rfl ?_
                    obtain ⟨s34, hc, h⟩ := bp_e h
                    refine e_cVv0 qX12_operand_274 mv_X12_183 shq_206 rfl rfl (w_X12_next hc) ?_
                    refine e_iconst (nI 1) qX12_operand_277 rfl ?_
                    exact e_zret qX12_operand_278 rfl (by decide) (ret_i h)
                  refine e_aload_n qX12_operand_256 rfl ?_
                  refine e_iconst (nI 1) qX12_operand_257 rfl ?_
                  obtain ⟨v35, s36, hc, h⟩ := bd_e h
                  refine e_cVi1 qX12_operand_258 mv_X12_180 shq_206 rfl rfl (w_X12_bad hc) ?_
                  refine rz_e h (fun hz h => ?_)
                  exact e_zret qX12_operand_261 rfl hz (ret_i h)
                exact e_weak (hj24 h) ⟨Or.inr rfl, Or.inl rfl, Or.inl rfl, Or.inl rfl, Or.inl rfl, trivial⟩
              exact e_weak (hj24 h) ⟨Or.inr rfl, Or.inl rfl, Or.inl rfl, Or.inl rfl, Or.inl rfl, trivial⟩
            refine e_iload_n qX12_operand_150 rfl ?_
            refine e_iconst (nI 3) qX12_operand_151 rfl ?_
            refine jn_e (fun j => ∀ (v37 : Int32) (s38 : St), j v37 s38 = some (r, sr) → E mX12_operand 2 (some (.int r), sr) 181 [some (.ref 206), none, none, some (.int v3), none] [.int v37] s38) h ?_ (fun j39 hj39 h => ?_)
            · intro v37 s38 h
              refine e_istore (lv2 := [some (.ref 206), none, none, some (.int v3), some (.int v37)]) qX12_operand_181 rfl rfl rfl ?_
              refine e_iload qX12_operand_183 rfl ?_
              refine e_if_ne (tgt := 190) qX12_operand_185 rfl h (fun _ h => ?_) (fun _ h => ?_)
              · refine e_iconst (nI 0) qX12_operand_188 rfl ?_
                exact e_zret qX12_operand_189 rfl (by decide) (ret_i h)
              refine e_aload_n qX12_operand_190 rfl ?_
              refine e_iload_n qX12_operand_191 rfl ?_
              refine e_iconst (nI 0) qX12_operand_192 rfl ?_
              refine e_aload_n qX12_operand_193 rfl ?_
              refine e_geti qX12_operand_194 fl_X12_190 shq_206 kdq_11_18 h (fun v40 h => ?_)
              obtain ⟨s41, hc, h⟩ := bp_e h
              refine e_cVv3 qX12_operand_197 mv_X12_454 shq_206 rfl rfl (w_X12_code hc) ?_
              refine e_aload_n qX12_operand_200 rfl ?_
              obtain ⟨s42, hc, h⟩ := bp_e h
              refine e_cVv0 qX12_operand_201 mv_X12_183 shq_206 rfl rfl (w_X12_next hc) ?_
              refine e_iconst (nI 1) qX12_operand_204 rfl ?_
              exact e_zret qX12_operand_205 rfl (by decide) (ret_i h)
            refine e_icmp_ne (tgt := 169) qX12_operand_152 rfl h (fun _ h => ?_) (fun _ h => ?_)
            · refine e_aload_n qX12_operand_155 rfl ?_
              refine e_iconst (nI 0) qX12_operand_156 rfl ?_
              refine e_aload_n qX12_operand_157 rfl ?_
              refine e_getr 208 qX12_operand_158 fl_X12_33 shq_206 kdq_11_6 rrq_206_6 ?_
              refine e_iconst (nI 0) qX12_operand_161 rfl ?_
              refine e_iald qX12_operand_162 shq_208 lnq_208 h (fun v43 h => ?_)
              obtain ⟨v44, s45, hc, h⟩ := bd_e h
              refine e_cVi2 qX12_operand_163 mv_X12_205 shq_206 rfl rfl (w_X12_looksAt hc) ?_
              refine e_goto (tgt := 181) qX12_operand_166 rfl ?_
              exact e_weak (hj39 _ _ h) ⟨Or.inr rfl, Or.inl rfl, Or.inl rfl, Or.inr rfl, Or.inl rfl, trivial⟩
            refine e_aload_n qX12_operand_169 rfl ?_
            refine e_bipush (nI 8) qX12_operand_170 rfl ?_
            refine e_aload_n qX12_operand_172 rfl ?_
            refine e_getr 208 qX12_operand_173 fl_X12_33 shq_206 kdq_11_6 rrq_206_6 ?_
            refine e_iconst (nI 1) qX12_operand_176 rfl ?_
            refine e_iald qX12_operand_177 shq_208 lnq_208 h (fun v46 h => ?_)
            obtain ⟨v47, s48, hc, h⟩ := bd_e h
            refine e_cVi2 qX12_operand_178 mv_X12_205 shq_206 rfl rfl (w_X12_looksAt hc) ?_
            exact e_weak (hj39 _ _ h) ⟨Or.inr rfl, Or.inl rfl, Or.inl rfl, Or.inr rfl, Or.inl rfl, trivial⟩
          refine e_aload_n qX12_operand_136 rfl ?_
          refine e_iload_n qX12_operand_137 rfl ?_
          refine e_iconst (nI 0) qX12_operand_138 rfl ?_
          refine e_iconst (nI 0) qX12_operand_139 rfl ?_
          obtain ⟨s49, hc, h⟩ := bp_e h
          refine e_cVv3 qX12_operand_140 mv_X12_454 shq_206 rfl rfl (w_X12_code hc) ?_
          refine e_iconst (nI 1) qX12_operand_143 rfl ?_
          exact e_zret qX12_operand_144 rfl (by decide) (ret_i h)
        exact e_weak (hj13 h) ⟨Or.inr rfl, Or.inr rfl, Or.inl rfl, Or.inl rfl, Or.inl rfl, trivial⟩
      exact e_weak (hj13 h) ⟨Or.inr rfl, Or.inr rfl, Or.inl rfl, Or.inl rfl, Or.inl rfl, trivial⟩
    exact e_weak (hj6 h) ⟨Or.inr rfl, Or.inl rfl, Or.inl rfl, Or.inl rfl, Or.inl rfl, trivial⟩
  refine e_if_ne (tgt := 38) qX12_operand_21 rfl h (fun _ h => ?_) (fun _ h => ?_)
  · refine e_iload_n qX12_operand_24 rfl ?_
    refine e_if_ne (tgt := 38) qX12_operand_25 rfl h (fun _ h => ?_) (fun _ h => ?_)
    · refine e_iload_n qX12_operand_28 rfl ?_
      refine e_if_ge (tgt := 38) qX12_operand_29 rfl h (fun _ h => ?_) (fun _ h => ?_)
      · exact e_weak (hj4 h) ⟨Or.inr rfl, Or.inr rfl, Or.inr rfl, Or.inr rfl, Or.inl rfl, trivial⟩
      refine e_aload_n qX12_operand_32 rfl ?_
      refine e_iconst (nI 1) qX12_operand_33 rfl ?_
      obtain ⟨v50, s51, hc, h⟩ := bd_e h
      refine e_cVi1 qX12_operand_34 mv_X12_180 shq_206 rfl rfl (w_X12_bad hc) ?_
      refine rz_e h (fun hz h => ?_)
      exact e_zret qX12_operand_37 rfl hz (ret_i h)
    exact e_weak (hj4 h) ⟨Or.inr rfl, Or.inr rfl, Or.inr rfl, Or.inr rfl, Or.inl rfl, trivial⟩
  exact e_weak (hj4 h) ⟨Or.inr rfl, Or.inr rfl, Or.inr rfl, Or.inr rfl, Or.inl rfl, trivial⟩
