theorem d_Law_913 : decode Y_Law.2.1 913 = .ok (.ireturn, 1) := by decide +kernel
theorem d_Law_914 : decode Y_Law.2.1 914 = .ok (.aload_n 1, 1) := by decide +kernel
theorem d_Law_915 : decode Y_Law.2.1 915 = .ok (.aload_n 0, 1) := by decide +kernel
theorem d_Law_916 : decode Y_Law.2.1 916 = .ok (.iload_n 3, 1) := by decide +kernel
theorem d_Law_917 : decode Y_Law.2.1 917 = .ok (.iconst 1, 1) := by decide +kernel
theorem d_Law_918 : decode Y_Law.2.1 918 = .ok (.iadd, 1) := by decide +kernel
theorem d_Law_919 : decode Y_Law.2.1 919 = .ok (.iaload, 1) := by decide +kernel
theorem d_Law_920 : decode Y_Law.2.1 920 = .ok (.invokevirtual 139, 3) := by decide +kernel
theorem d_Law_923 : decode Y_Law.2.1 923 = .ok (.aload_n 2, 1) := by decide +kernel
theorem d_Law_924 : decode Y_Law.2.1 924 = .ok (.aload_n 0, 1) := by decide +kernel
theorem d_Law_925 : decode Y_Law.2.1 925 = .ok (.iload_n 3, 1) := by decide +kernel
theorem d_Law_926 : decode Y_Law.2.1 926 = .ok (.iconst 1, 1) := by decide +kernel
theorem d_Law_927 : decode Y_Law.2.1 927 = .ok (.iadd, 1) := by decide +kernel
theorem d_Law_928 : decode Y_Law.2.1 928 = .ok (.iaload, 1) := by decide +kernel
theorem d_Law_929 : decode Y_Law.2.1 929 = .ok (.invokevirtual 142, 3) := by decide +kernel
theorem d_Law_932 : decode Y_Law.2.1 932 = .ok (.if_icmp .eq 610, 3) := by decide +kernel
theorem d_Law_935 : decode Y_Law.2.1 935 = .ok (.iconst 0, 1) := by decide +kernel
theorem d_Law_936 : decode Y_Law.2.1 936 = .ok (.ireturn, 1) := by decide +kernel
theorem d_Law_937 : decode Y_Law.2.1 937 = .ok (.aload_n 1, 1) := by decide +kernel
theorem d_Law_938 : decode Y_Law.2.1 938 = .ok (.aload_n 0, 1) := by decide +kernel
theorem d_Law_939 : decode Y_Law.2.1 939 = .ok (.iload_n 3, 1) := by decide +kernel
theorem d_Law_940 : decode Y_Law.2.1 940 = .ok (.iconst 1, 1) := by decide +kernel
theorem d_Law_941 : decode Y_Law.2.1 941 = .ok (.iadd, 1) := by decide +kernel
theorem d_Law_942 : decode Y_Law.2.1 942 = .ok (.iaload, 1) := by decide +kernel
theorem d_Law_943 : decode Y_Law.2.1 943 = .ok (.invokevirtual 143, 3) := by decide +kernel
theorem d_Law_946 : decode Y_Law.2.1 946 = .ok (.aload_n 2, 1) := by decide +kernel
theorem d_Law_947 : decode Y_Law.2.1 947 = .ok (.aload_n 0, 1) := by decide +kernel
theorem d_Law_948 : decode Y_Law.2.1 948 = .ok (.iload_n 3, 1) := by decide +kernel
theorem d_Law_949 : decode Y_Law.2.1 949 = .ok (.iconst 1, 1) := by decide +kernel
theorem d_Law_950 : decode Y_Law.2.1 950 = .ok (.iadd, 1) := by decide +kernel
theorem d_Law_951 : decode Y_Law.2.1 951 = .ok (.iaload, 1) := by decide +kernel
theorem d_Law_952 : decode Y_Law.2.1 952 = .ok (.invokevirtual 146, 3) := by decide +kernel
theorem d_Law_955 : decode Y_Law.2.1 955 = .ok (.if_icmp .eq 587, 3) := by decide +kernel
theorem d_Law_958 : decode Y_Law.2.1 958 = .ok (.iconst 0, 1) := by decide +kernel
theorem d_Law_959 : decode Y_Law.2.1 959 = .ok (.ireturn, 1) := by decide +kernel
theorem d_Law_960 : decode Y_Law.2.1 960 = .ok (.aload_n 1, 1) := by decide +kernel
theorem d_Law_961 : decode Y_Law.2.1 961 = .ok (.aload_n 0, 1) := by decide +kernel
theorem d_Law_962 : decode Y_Law.2.1 962 = .ok (.iload_n 3, 1) := by decide +kernel
theorem d_Law_963 : decode Y_Law.2.1 963 = .ok (.iconst 1, 1) := by decide +kernel
theorem d_Law_964 : decode Y_Law.2.1 964 = .ok (.iadd, 1) := by decide +kernel
theorem d_Law_965 : decode Y_Law.2.1 965 = .ok (.iaload, 1) := by decide +kernel
theorem d_Law_966 : decode Y_Law.2.1 966 = .ok (.invokevirtual 147, 3) := by decide +kernel
theorem d_Law_969 : decode Y_Law.2.1 969 = .ok (.aload_n 2, 1) := by decide +kernel
theorem d_Law_970 : decode Y_Law.2.1 970 = .ok (.aload_n 0, 1) := by decide +kernel
theorem d_Law_971 : decode Y_Law.2.1 971 = .ok (.iload_n 3, 1) := by decide +kernel
theorem d_Law_972 : decode Y_Law.2.1 972 = .ok (.iconst 1, 1) := by decide +kernel
theorem d_Law_973 : decode Y_Law.2.1 973 = .ok (.iadd, 1) := by decide +kernel
theorem d_Law_974 : decode Y_Law.2.1 974 = .ok (.iaload, 1) := by decide +kernel
theorem d_Law_975 : decode Y_Law.2.1 975 = .ok (.invokevirtual 150, 3) := by decide +kernel
theorem d_Law_978 : decode Y_Law.2.1 978 = .ok (.if_icmp .eq 564, 3) := by decide +kernel
theorem d_Law_981 : decode Y_Law.2.1 981 = .ok (.iconst 0, 1) := by decide +kernel
theorem d_Law_982 : decode Y_Law.2.1 982 = .ok (.ireturn, 1) := by decide +kernel
theorem d_Law_983 : decode Y_Law.2.1 983 = .ok (.aload_n 1, 1) := by decide +kernel
theorem d_Law_984 : decode Y_Law.2.1 984 = .ok (.aload_n 0, 1) := by decide +kernel
theorem d_Law_985 : decode Y_Law.2.1 985 = .ok (.iload_n 3, 1) := by decide +kernel
theorem d_Law_986 : decode Y_Law.2.1 986 = .ok (.iconst 1, 1) := by decide +kernel
theorem d_Law_987 : decode Y_Law.2.1 987 = .ok (.iadd, 1) := by decide +kernel
theorem d_Law_988 : decode Y_Law.2.1 988 = .ok (.iaload, 1) := by decide +kernel
theorem d_Law_989 : decode Y_Law.2.1 989 = .ok (.invokevirtual 151, 3) := by decide +kernel
theorem d_Law_992 : decode Y_Law.2.1 992 = .ok (.aload_n 2, 1) := by decide +kernel
theorem d_Law_993 : decode Y_Law.2.1 993 = .ok (.aload_n 0, 1) := by decide +kernel
theorem d_Law_994 : decode Y_Law.2.1 994 = .ok (.iload_n 3, 1) := by decide +kernel
theorem d_Law_995 : decode Y_Law.2.1 995 = .ok (.iconst 1, 1) := by decide +kernel
theorem d_Law_996 : decode Y_Law.2.1 996 = .ok (.iadd, 1) := by decide +kernel
theorem d_Law_997 : decode Y_Law.2.1 997 = .ok (.iaload, 1) := by decide +kernel
theorem d_Law_998 : decode Y_Law.2.1 998 = .ok (.invokevirtual 154, 3) := by decide +kernel
theorem d_Law_1001 : decode Y_Law.2.1 1001 = .ok (.if_icmp .eq 541, 3) := by decide +kernel
theorem d_Law_1004 : decode Y_Law.2.1 1004 = .ok (.iconst 0, 1) := by decide +kernel
theorem d_Law_1005 : decode Y_Law.2.1 1005 = .ok (.ireturn, 1) := by decide +kernel
theorem d_Law_1006 : decode Y_Law.2.1 1006 = .ok (.aload_n 1, 1) := by decide +kernel
theorem d_Law_1007 : decode Y_Law.2.1 1007 = .ok (.invokevirtual 155, 3) := by decide +kernel
theorem d_Law_1010 : decode Y_Law.2.1 1010 = .ok (.aload_n 2, 1) := by decide +kernel
theorem d_Law_1011 : decode Y_Law.2.1 1011 = .ok (.invokevirtual 158, 3) := by decide +kernel
theorem d_Law_1014 : decode Y_Law.2.1 1014 = .ok (.if_icmp .eq 528, 3) := by decide +kernel
theorem d_Law_1017 : decode Y_Law.2.1 1017 = .ok (.iconst 0, 1) := by decide +kernel
theorem d_Law_1018 : decode Y_Law.2.1 1018 = .ok (.ireturn, 1) := by decide +kernel
theorem d_Law_1019 : decode Y_Law.2.1 1019 = .ok (.aload_n 1, 1) := by decide +kernel
theorem d_Law_1020 : decode Y_Law.2.1 1020 = .ok (.aload_n 0, 1) := by decide +kernel
theorem d_Law_1021 : decode Y_Law.2.1 1021 = .ok (.iload_n 3, 1) := by decide +kernel
theorem d_Law_1022 : decode Y_Law.2.1 1022 = .ok (.iconst 1, 1) := by decide +kernel
theorem d_Law_1023 : decode Y_Law.2.1 1023 = .ok (.iadd, 1) := by decide +kernel
theorem d_Law_1024 : decode Y_Law.2.1 1024 = .ok (.iaload, 1) := by decide +kernel
theorem d_Law_1025 : decode Y_Law.2.1 1025 = .ok (.invokevirtual 159, 3) := by decide +kernel
theorem d_Law_1028 : decode Y_Law.2.1 1028 = .ok (.aload_n 2, 1) := by decide +kernel
theorem d_Law_1029 : decode Y_Law.2.1 1029 = .ok (.aload_n 0, 1) := by decide +kernel
theorem d_Law_1030 : decode Y_Law.2.1 1030 = .ok (.iload_n 3, 1) := by decide +kernel
theorem d_Law_1031 : decode Y_Law.2.1 1031 = .ok (.iconst 1, 1) := by decide +kernel
theorem d_Law_1032 : decode Y_Law.2.1 1032 = .ok (.iadd, 1) := by decide +kernel
theorem d_Law_1033 : decode Y_Law.2.1 1033 = .ok (.iaload, 1) := by decide +kernel
theorem d_Law_1034 : decode Y_Law.2.1 1034 = .ok (.invokevirtual 162, 3) := by decide +kernel
theorem d_Law_1037 : decode Y_Law.2.1 1037 = .ok (.if_icmp .eq 505, 3) := by decide +kernel
theorem d_Law_1040 : decode Y_Law.2.1 1040 = .ok (.iconst 0, 1) := by decide +kernel
theorem d_Law_1041 : decode Y_Law.2.1 1041 = .ok (.ireturn, 1) := by decide +kernel
theorem d_Law_1042 : decode Y_Law.2.1 1042 = .ok (.aload_n 1, 1) := by decide +kernel
theorem d_Law_1043 : decode Y_Law.2.1 1043 = .ok (.invokevirtual 163, 3) := by decide +kernel
theorem d_Law_1046 : decode Y_Law.2.1 1046 = .ok (.aload_n 2, 1) := by decide +kernel
theorem d_Law_1047 : decode Y_Law.2.1 1047 = .ok (.invokevirtual 166, 3) := by decide +kernel
theorem d_Law_1050 : decode Y_Law.2.1 1050 = .ok (.if_icmp .eq 492, 3) := by decide +kernel
theorem d_Law_1053 : decode Y_Law.2.1 1053 = .ok (.iconst 0, 1) := by decide +kernel
theorem d_Law_1054 : decode Y_Law.2.1 1054 = .ok (.ireturn, 1) := by decide +kernel
theorem d_Law_1055 : decode Y_Law.2.1 1055 = .ok (.aload_n 1, 1) := by decide +kernel
theorem d_Law_1056 : decode Y_Law.2.1 1056 = .ok (.aload_n 0, 1) := by decide +kernel
theorem d_Law_1057 : decode Y_Law.2.1 1057 = .ok (.iload_n 3, 1) := by decide +kernel
theorem d_Law_1058 : decode Y_Law.2.1 1058 = .ok (.iconst 1, 1) := by decide +kernel
theorem d_Law_1059 : decode Y_Law.2.1 1059 = .ok (.iadd, 1) := by decide +kernel
theorem d_Law_1060 : decode Y_Law.2.1 1060 = .ok (.iaload, 1) := by decide +kernel
theorem d_Law_1061 : decode Y_Law.2.1 1061 = .ok (.invokevirtual 167, 3) := by decide +kernel
theorem d_Law_1064 : decode Y_Law.2.1 1064 = .ok (.aload_n 2, 1) := by decide +kernel
theorem d_Law_1065 : decode Y_Law.2.1 1065 = .ok (.aload_n 0, 1) := by decide +kernel
theorem d_Law_1066 : decode Y_Law.2.1 1066 = .ok (.iload_n 3, 1) := by decide +kernel
theorem d_Law_1067 : decode Y_Law.2.1 1067 = .ok (.iconst 1, 1) := by decide +kernel
theorem d_Law_1068 : decode Y_Law.2.1 1068 = .ok (.iadd, 1) := by decide +kernel
theorem d_Law_1069 : decode Y_Law.2.1 1069 = .ok (.iaload, 1) := by decide +kernel
theorem d_Law_1070 : decode Y_Law.2.1 1070 = .ok (.invokevirtual 170, 3) := by decide +kernel
theorem d_Law_1073 : decode Y_Law.2.1 1073 = .ok (.if_icmp .eq 469, 3) := by decide +kernel
theorem d_Law_1076 : decode Y_Law.2.1 1076 = .ok (.iconst 0, 1) := by decide +kernel
theorem d_Law_1077 : decode Y_Law.2.1 1077 = .ok (.ireturn, 1) := by decide +kernel
theorem d_Law_1078 : decode Y_Law.2.1 1078 = .ok (.aload_n 1, 1) := by decide +kernel
theorem d_Law_1079 : decode Y_Law.2.1 1079 = .ok (.aload_n 0, 1) := by decide +kernel
theorem d_Law_1080 : decode Y_Law.2.1 1080 = .ok (.iload_n 3, 1) := by decide +kernel
theorem d_Law_1081 : decode Y_Law.2.1 1081 = .ok (.iconst 1, 1) := by decide +kernel
theorem d_Law_1082 : decode Y_Law.2.1 1082 = .ok (.iadd, 1) := by decide +kernel
theorem d_Law_1083 : decode Y_Law.2.1 1083 = .ok (.iaload, 1) := by decide +kernel
theorem d_Law_1084 : decode Y_Law.2.1 1084 = .ok (.aload_n 0, 1) := by decide +kernel
theorem d_Law_1085 : decode Y_Law.2.1 1085 = .ok (.iload_n 3, 1) := by decide +kernel
theorem d_Law_1086 : decode Y_Law.2.1 1086 = .ok (.iconst 2, 1) := by decide +kernel
theorem d_Law_1087 : decode Y_Law.2.1 1087 = .ok (.iadd, 1) := by decide +kernel
theorem d_Law_1088 : decode Y_Law.2.1 1088 = .ok (.iaload, 1) := by decide +kernel
theorem d_Law_1089 : decode Y_Law.2.1 1089 = .ok (.aload_n 0, 1) := by decide +kernel
theorem d_Law_1090 : decode Y_Law.2.1 1090 = .ok (.iload_n 3, 1) := by decide +kernel
theorem d_Law_1091 : decode Y_Law.2.1 1091 = .ok (.iconst 3, 1) := by decide +kernel
theorem d_Law_1092 : decode Y_Law.2.1 1092 = .ok (.iadd, 1) := by decide +kernel
theorem d_Law_1093 : decode Y_Law.2.1 1093 = .ok (.iaload, 1) := by decide +kernel
theorem d_Law_1094 : decode Y_Law.2.1 1094 = .ok (.invokevirtual 171, 3) := by decide +kernel
theorem d_Law_1097 : decode Y_Law.2.1 1097 = .ok (.aload_n 2, 1) := by decide +kernel
theorem d_Law_1098 : decode Y_Law.2.1 1098 = .ok (.aload_n 0, 1) := by decide +kernel
theorem d_Law_1099 : decode Y_Law.2.1 1099 = .ok (.iload_n 3, 1) := by decide +kernel
theorem d_Law_1100 : decode Y_Law.2.1 1100 = .ok (.iconst 1, 1) := by decide +kernel
theorem d_Law_1101 : decode Y_Law.2.1 1101 = .ok (.iadd, 1) := by decide +kernel
theorem d_Law_1102 : decode Y_Law.2.1 1102 = .ok (.iaload, 1) := by decide +kernel
theorem d_Law_1103 : decode Y_Law.2.1 1103 = .ok (.aload_n 0, 1) := by decide +kernel
theorem d_Law_1104 : decode Y_Law.2.1 1104 = .ok (.iload_n 3, 1) := by decide +kernel
theorem d_Law_1105 : decode Y_Law.2.1 1105 = .ok (.iconst 2, 1) := by decide +kernel
theorem d_Law_1106 : decode Y_Law.2.1 1106 = .ok (.iadd, 1) := by decide +kernel
theorem d_Law_1107 : decode Y_Law.2.1 1107 = .ok (.iaload, 1) := by decide +kernel
theorem d_Law_1108 : decode Y_Law.2.1 1108 = .ok (.aload_n 0, 1) := by decide +kernel
theorem d_Law_1109 : decode Y_Law.2.1 1109 = .ok (.iload_n 3, 1) := by decide +kernel
theorem d_Law_1110 : decode Y_Law.2.1 1110 = .ok (.iconst 3, 1) := by decide +kernel
theorem d_Law_1111 : decode Y_Law.2.1 1111 = .ok (.iadd, 1) := by decide +kernel
theorem d_Law_1112 : decode Y_Law.2.1 1112 = .ok (.iaload, 1) := by decide +kernel
theorem d_Law_1113 : decode Y_Law.2.1 1113 = .ok (.invokevirtual 174, 3) := by decide +kernel
theorem d_Law_1116 : decode Y_Law.2.1 1116 = .ok (.if_icmp .eq 426, 3) := by decide +kernel
theorem d_Law_1119 : decode Y_Law.2.1 1119 = .ok (.iconst 0, 1) := by decide +kernel
theorem d_Law_1120 : decode Y_Law.2.1 1120 = .ok (.ireturn, 1) := by decide +kernel
theorem d_Law_1121 : decode Y_Law.2.1 1121 = .ok (.aload_n 1, 1) := by decide +kernel
theorem d_Law_1122 : decode Y_Law.2.1 1122 = .ok (.aload_n 0, 1) := by decide +kernel
theorem d_Law_1123 : decode Y_Law.2.1 1123 = .ok (.iload_n 3, 1) := by decide +kernel
theorem d_Law_1124 : decode Y_Law.2.1 1124 = .ok (.iconst 1, 1) := by decide +kernel
theorem d_Law_1125 : decode Y_Law.2.1 1125 = .ok (.iadd, 1) := by decide +kernel
theorem d_Law_1126 : decode Y_Law.2.1 1126 = .ok (.iaload, 1) := by decide +kernel
theorem d_Law_1127 : decode Y_Law.2.1 1127 = .ok (.invokevirtual 175, 3) := by decide +kernel
theorem d_Law_1130 : decode Y_Law.2.1 1130 = .ok (.aload_n 2, 1) := by decide +kernel
theorem d_Law_1131 : decode Y_Law.2.1 1131 = .ok (.aload_n 0, 1) := by decide +kernel
theorem d_Law_1132 : decode Y_Law.2.1 1132 = .ok (.iload_n 3, 1) := by decide +kernel
theorem d_Law_1133 : decode Y_Law.2.1 1133 = .ok (.iconst 1, 1) := by decide +kernel
theorem d_Law_1134 : decode Y_Law.2.1 1134 = .ok (.iadd, 1) := by decide +kernel
theorem d_Law_1135 : decode Y_Law.2.1 1135 = .ok (.iaload, 1) := by decide +kernel
theorem d_Law_1136 : decode Y_Law.2.1 1136 = .ok (.invokevirtual 178, 3) := by decide +kernel
theorem d_Law_1139 : decode Y_Law.2.1 1139 = .ok (.if_icmp .eq 403, 3) := by decide +kernel
theorem d_Law_1142 : decode Y_Law.2.1 1142 = .ok (.iconst 0, 1) := by decide +kernel
theorem d_Law_1143 : decode Y_Law.2.1 1143 = .ok (.ireturn, 1) := by decide +kernel
theorem d_Law_1144 : decode Y_Law.2.1 1144 = .ok (.aload_n 1, 1) := by decide +kernel
theorem d_Law_1145 : decode Y_Law.2.1 1145 = .ok (.aload_n 0, 1) := by decide +kernel
theorem d_Law_1146 : decode Y_Law.2.1 1146 = .ok (.iload_n 3, 1) := by decide +kernel
theorem d_Law_1147 : decode Y_Law.2.1 1147 = .ok (.iconst 1, 1) := by decide +kernel
theorem d_Law_1148 : decode Y_Law.2.1 1148 = .ok (.iadd, 1) := by decide +kernel
theorem d_Law_1149 : decode Y_Law.2.1 1149 = .ok (.iaload, 1) := by decide +kernel
theorem d_Law_1150 : decode Y_Law.2.1 1150 = .ok (.invokevirtual 179, 3) := by decide +kernel
theorem d_Law_1153 : decode Y_Law.2.1 1153 = .ok (.aload_n 2, 1) := by decide +kernel
theorem d_Law_1154 : decode Y_Law.2.1 1154 = .ok (.aload_n 0, 1) := by decide +kernel
theorem d_Law_1155 : decode Y_Law.2.1 1155 = .ok (.iload_n 3, 1) := by decide +kernel
theorem d_Law_1156 : decode Y_Law.2.1 1156 = .ok (.iconst 1, 1) := by decide +kernel
theorem d_Law_1157 : decode Y_Law.2.1 1157 = .ok (.iadd, 1) := by decide +kernel
theorem d_Law_1158 : decode Y_Law.2.1 1158 = .ok (.iaload, 1) := by decide +kernel
theorem d_Law_1159 : decode Y_Law.2.1 1159 = .ok (.invokevirtual 182, 3) := by decide +kernel
theorem d_Law_1162 : decode Y_Law.2.1 1162 = .ok (.if_icmp .eq 380, 3) := by decide +kernel
theorem d_Law_1165 : decode Y_Law.2.1 1165 = .ok (.iconst 0, 1) := by decide +kernel
theorem d_Law_1166 : decode Y_Law.2.1 1166 = .ok (.ireturn, 1) := by decide +kernel
theorem d_Law_1167 : decode Y_Law.2.1 1167 = .ok (.aload_n 1, 1) := by decide +kernel
theorem d_Law_1168 : decode Y_Law.2.1 1168 = .ok (.aload_n 0, 1) := by decide +kernel
theorem d_Law_1169 : decode Y_Law.2.1 1169 = .ok (.iload_n 3, 1) := by decide +kernel
theorem d_Law_1170 : decode Y_Law.2.1 1170 = .ok (.iconst 1, 1) := by decide +kernel
theorem d_Law_1171 : decode Y_Law.2.1 1171 = .ok (.iadd, 1) := by decide +kernel
theorem d_Law_1172 : decode Y_Law.2.1 1172 = .ok (.iaload, 1) := by decide +kernel
theorem d_Law_1173 : decode Y_Law.2.1 1173 = .ok (.aload_n 0, 1) := by decide +kernel
theorem d_Law_1174 : decode Y_Law.2.1 1174 = .ok (.iload_n 3, 1) := by decide +kernel
theorem d_Law_1175 : decode Y_Law.2.1 1175 = .ok (.iconst 2, 1) := by decide +kernel
theorem d_Law_1176 : decode Y_Law.2.1 1176 = .ok (.iadd, 1) := by decide +kernel
theorem d_Law_1177 : decode Y_Law.2.1 1177 = .ok (.iaload, 1) := by decide +kernel
theorem d_Law_1178 : decode Y_Law.2.1 1178 = .ok (.invokevirtual 183, 3) := by decide +kernel
theorem d_Law_1181 : decode Y_Law.2.1 1181 = .ok (.aload_n 2, 1) := by decide +kernel
theorem d_Law_1182 : decode Y_Law.2.1 1182 = .ok (.aload_n 0, 1) := by decide +kernel
theorem d_Law_1183 : decode Y_Law.2.1 1183 = .ok (.iload_n 3, 1) := by decide +kernel
theorem d_Law_1184 : decode Y_Law.2.1 1184 = .ok (.iconst 1, 1) := by decide +kernel
theorem d_Law_1185 : decode Y_Law.2.1 1185 = .ok (.iadd, 1) := by decide +kernel
theorem d_Law_1186 : decode Y_Law.2.1 1186 = .ok (.iaload, 1) := by decide +kernel
theorem d_Law_1187 : decode Y_Law.2.1 1187 = .ok (.aload_n 0, 1) := by decide +kernel
theorem d_Law_1188 : decode Y_Law.2.1 1188 = .ok (.iload_n 3, 1) := by decide +kernel
theorem d_Law_1189 : decode Y_Law.2.1 1189 = .ok (.iconst 2, 1) := by decide +kernel
theorem d_Law_1190 : decode Y_Law.2.1 1190 = .ok (.iadd, 1) := by decide +kernel
theorem d_Law_1191 : decode Y_Law.2.1 1191 = .ok (.iaload, 1) := by decide +kernel
theorem d_Law_1192 : decode Y_Law.2.1 1192 = .ok (.invokevirtual 186, 3) := by decide +kernel
theorem d_Law_1195 : decode Y_Law.2.1 1195 = .ok (.if_icmp .eq 347, 3) := by decide +kernel
theorem d_Law_1198 : decode Y_Law.2.1 1198 = .ok (.iconst 0, 1) := by decide +kernel
theorem d_Law_1199 : decode Y_Law.2.1 1199 = .ok (.ireturn, 1) := by decide +kernel
theorem d_Law_1200 : decode Y_Law.2.1 1200 = .ok (.aload_n 1, 1) := by decide +kernel
theorem d_Law_1201 : decode Y_Law.2.1 1201 = .ok (.aload_n 0, 1) := by decide +kernel
theorem d_Law_1202 : decode Y_Law.2.1 1202 = .ok (.iload_n 3, 1) := by decide +kernel
theorem d_Law_1203 : decode Y_Law.2.1 1203 = .ok (.iconst 1, 1) := by decide +kernel
theorem d_Law_1204 : decode Y_Law.2.1 1204 = .ok (.iadd, 1) := by decide +kernel
theorem d_Law_1205 : decode Y_Law.2.1 1205 = .ok (.iaload, 1) := by decide +kernel
theorem d_Law_1206 : decode Y_Law.2.1 1206 = .ok (.invokevirtual 187, 3) := by decide +kernel
theorem d_Law_1209 : decode Y_Law.2.1 1209 = .ok (.aload_n 2, 1) := by decide +kernel
theorem d_Law_1210 : decode Y_Law.2.1 1210 = .ok (.aload_n 0, 1) := by decide +kernel
theorem d_Law_1211 : decode Y_Law.2.1 1211 = .ok (.iload_n 3, 1) := by decide +kernel
theorem d_Law_1212 : decode Y_Law.2.1 1212 = .ok (.iconst 1, 1) := by decide +kernel
theorem d_Law_1213 : decode Y_Law.2.1 1213 = .ok (.iadd, 1) := by decide +kernel
theorem d_Law_1214 : decode Y_Law.2.1 1214 = .ok (.iaload, 1) := by decide +kernel
theorem d_Law_1215 : decode Y_Law.2.1 1215 = .ok (.invokevirtual 190, 3) := by decide +kernel
theorem d_Law_1218 : decode Y_Law.2.1 1218 = .ok (.if_icmp .eq 324, 3) := by decide +kernel
theorem d_Law_1221 : decode Y_Law.2.1 1221 = .ok (.iconst 0, 1) := by decide +kernel
theorem d_Law_1222 : decode Y_Law.2.1 1222 = .ok (.ireturn, 1) := by decide +kernel
theorem d_Law_1223 : decode Y_Law.2.1 1223 = .ok (.aload_n 1, 1) := by decide +kernel
theorem d_Law_1224 : decode Y_Law.2.1 1224 = .ok (.aload_n 0, 1) := by decide +kernel
theorem d_Law_1225 : decode Y_Law.2.1 1225 = .ok (.iload_n 3, 1) := by decide +kernel
theorem d_Law_1226 : decode Y_Law.2.1 1226 = .ok (.iconst 1, 1) := by decide +kernel
theorem d_Law_1227 : decode Y_Law.2.1 1227 = .ok (.iadd, 1) := by decide +kernel
theorem d_Law_1228 : decode Y_Law.2.1 1228 = .ok (.iaload, 1) := by decide +kernel
theorem d_Law_1229 : decode Y_Law.2.1 1229 = .ok (.aload_n 0, 1) := by decide +kernel
theorem d_Law_1230 : decode Y_Law.2.1 1230 = .ok (.iload_n 3, 1) := by decide +kernel
theorem d_Law_1231 : decode Y_Law.2.1 1231 = .ok (.iconst 2, 1) := by decide +kernel
theorem d_Law_1232 : decode Y_Law.2.1 1232 = .ok (.iadd, 1) := by decide +kernel
theorem d_Law_1233 : decode Y_Law.2.1 1233 = .ok (.iaload, 1) := by decide +kernel
theorem d_Law_1234 : decode Y_Law.2.1 1234 = .ok (.invokevirtual 191, 3) := by decide +kernel
theorem d_Law_1237 : decode Y_Law.2.1 1237 = .ok (.aload_n 2, 1) := by decide +kernel
theorem d_Law_1238 : decode Y_Law.2.1 1238 = .ok (.aload_n 0, 1) := by decide +kernel
theorem d_Law_1239 : decode Y_Law.2.1 1239 = .ok (.iload_n 3, 1) := by decide +kernel
theorem d_Law_1240 : decode Y_Law.2.1 1240 = .ok (.iconst 1, 1) := by decide +kernel
theorem d_Law_1241 : decode Y_Law.2.1 1241 = .ok (.iadd, 1) := by decide +kernel
theorem d_Law_1242 : decode Y_Law.2.1 1242 = .ok (.iaload, 1) := by decide +kernel
theorem d_Law_1243 : decode Y_Law.2.1 1243 = .ok (.aload_n 0, 1) := by decide +kernel
theorem d_Law_1244 : decode Y_Law.2.1 1244 = .ok (.iload_n 3, 1) := by decide +kernel
theorem d_Law_1245 : decode Y_Law.2.1 1245 = .ok (.iconst 2, 1) := by decide +kernel
theorem d_Law_1246 : decode Y_Law.2.1 1246 = .ok (.iadd, 1) := by decide +kernel
theorem d_Law_1247 : decode Y_Law.2.1 1247 = .ok (.iaload, 1) := by decide +kernel
theorem d_Law_1248 : decode Y_Law.2.1 1248 = .ok (.invokevirtual 194, 3) := by decide +kernel
theorem d_Law_1251 : decode Y_Law.2.1 1251 = .ok (.if_icmp .eq 291, 3) := by decide +kernel
theorem d_Law_1254 : decode Y_Law.2.1 1254 = .ok (.iconst 0, 1) := by decide +kernel
theorem d_Law_1255 : decode Y_Law.2.1 1255 = .ok (.ireturn, 1) := by decide +kernel
theorem d_Law_1256 : decode Y_Law.2.1 1256 = .ok (.aload_n 1, 1) := by decide +kernel
theorem d_Law_1257 : decode Y_Law.2.1 1257 = .ok (.aload_n 0, 1) := by decide +kernel
theorem d_Law_1258 : decode Y_Law.2.1 1258 = .ok (.iload_n 3, 1) := by decide +kernel
theorem d_Law_1259 : decode Y_Law.2.1 1259 = .ok (.iconst 1, 1) := by decide +kernel
theorem d_Law_1260 : decode Y_Law.2.1 1260 = .ok (.iadd, 1) := by decide +kernel
theorem d_Law_1261 : decode Y_Law.2.1 1261 = .ok (.iaload, 1) := by decide +kernel
theorem d_Law_1262 : decode Y_Law.2.1 1262 = .ok (.invokevirtual 195, 3) := by decide +kernel
theorem d_Law_1265 : decode Y_Law.2.1 1265 = .ok (.aload_n 2, 1) := by decide +kernel
theorem d_Law_1266 : decode Y_Law.2.1 1266 = .ok (.aload_n 0, 1) := by decide +kernel
theorem d_Law_1267 : decode Y_Law.2.1 1267 = .ok (.iload_n 3, 1) := by decide +kernel
theorem d_Law_1268 : decode Y_Law.2.1 1268 = .ok (.iconst 1, 1) := by decide +kernel
theorem d_Law_1269 : decode Y_Law.2.1 1269 = .ok (.iadd, 1) := by decide +kernel
theorem d_Law_1270 : decode Y_Law.2.1 1270 = .ok (.iaload, 1) := by decide +kernel
theorem d_Law_1271 : decode Y_Law.2.1 1271 = .ok (.invokevirtual 198, 3) := by decide +kernel
theorem d_Law_1274 : decode Y_Law.2.1 1274 = .ok (.if_icmp .eq 268, 3) := by decide +kernel
theorem d_Law_1277 : decode Y_Law.2.1 1277 = .ok (.iconst 0, 1) := by decide +kernel
theorem d_Law_1278 : decode Y_Law.2.1 1278 = .ok (.ireturn, 1) := by decide +kernel
theorem d_Law_1279 : decode Y_Law.2.1 1279 = .ok (.aload_n 1, 1) := by decide +kernel
theorem d_Law_1280 : decode Y_Law.2.1 1280 = .ok (.aload_n 0, 1) := by decide +kernel
theorem d_Law_1281 : decode Y_Law.2.1 1281 = .ok (.iload_n 3, 1) := by decide +kernel
theorem d_Law_1282 : decode Y_Law.2.1 1282 = .ok (.iconst 1, 1) := by decide +kernel
theorem d_Law_1283 : decode Y_Law.2.1 1283 = .ok (.iadd, 1) := by decide +kernel
theorem d_Law_1284 : decode Y_Law.2.1 1284 = .ok (.iaload, 1) := by decide +kernel
theorem d_Law_1285 : decode Y_Law.2.1 1285 = .ok (.aload_n 0, 1) := by decide +kernel
theorem d_Law_1286 : decode Y_Law.2.1 1286 = .ok (.iload_n 3, 1) := by decide +kernel
theorem d_Law_1287 : decode Y_Law.2.1 1287 = .ok (.iconst 2, 1) := by decide +kernel
theorem d_Law_1288 : decode Y_Law.2.1 1288 = .ok (.iadd, 1) := by decide +kernel
theorem d_Law_1289 : decode Y_Law.2.1 1289 = .ok (.iaload, 1) := by decide +kernel
theorem d_Law_1290 : decode Y_Law.2.1 1290 = .ok (.aload_n 0, 1) := by decide +kernel
theorem d_Law_1291 : decode Y_Law.2.1 1291 = .ok (.iload_n 3, 1) := by decide +kernel
theorem d_Law_1292 : decode Y_Law.2.1 1292 = .ok (.iconst 3, 1) := by decide +kernel
theorem d_Law_1293 : decode Y_Law.2.1 1293 = .ok (.iadd, 1) := by decide +kernel
theorem d_Law_1294 : decode Y_Law.2.1 1294 = .ok (.iaload, 1) := by decide +kernel
theorem d_Law_1295 : decode Y_Law.2.1 1295 = .ok (.ifCond .eq 7, 3) := by decide +kernel
theorem d_Law_1298 : decode Y_Law.2.1 1298 = .ok (.iconst 1, 1) := by decide +kernel
theorem d_Law_1299 : decode Y_Law.2.1 1299 = .ok (.goto 4, 3) := by decide +kernel
theorem d_Law_1302 : decode Y_Law.2.1 1302 = .ok (.iconst 0, 1) := by decide +kernel
theorem d_Law_1303 : decode Y_Law.2.1 1303 = .ok (.invokevirtual 199, 3) := by decide +kernel
theorem d_Law_1306 : decode Y_Law.2.1 1306 = .ok (.aload_n 2, 1) := by decide +kernel
theorem d_Law_1307 : decode Y_Law.2.1 1307 = .ok (.aload_n 0, 1) := by decide +kernel
theorem d_Law_1308 : decode Y_Law.2.1 1308 = .ok (.iload_n 3, 1) := by decide +kernel
theorem d_Law_1309 : decode Y_Law.2.1 1309 = .ok (.iconst 1, 1) := by decide +kernel
theorem d_Law_1310 : decode Y_Law.2.1 1310 = .ok (.iadd, 1) := by decide +kernel
theorem d_Law_1311 : decode Y_Law.2.1 1311 = .ok (.iaload, 1) := by decide +kernel
theorem d_Law_1312 : decode Y_Law.2.1 1312 = .ok (.aload_n 0, 1) := by decide +kernel
theorem d_Law_1313 : decode Y_Law.2.1 1313 = .ok (.iload_n 3, 1) := by decide +kernel
theorem d_Law_1314 : decode Y_Law.2.1 1314 = .ok (.iconst 2, 1) := by decide +kernel
theorem d_Law_1315 : decode Y_Law.2.1 1315 = .ok (.iadd, 1) := by decide +kernel
theorem d_Law_1316 : decode Y_Law.2.1 1316 = .ok (.iaload, 1) := by decide +kernel
theorem d_Law_1317 : decode Y_Law.2.1 1317 = .ok (.aload_n 0, 1) := by decide +kernel
theorem d_Law_1318 : decode Y_Law.2.1 1318 = .ok (.iload_n 3, 1) := by decide +kernel
theorem d_Law_1319 : decode Y_Law.2.1 1319 = .ok (.iconst 3, 1) := by decide +kernel
theorem d_Law_1320 : decode Y_Law.2.1 1320 = .ok (.iadd, 1) := by decide +kernel
theorem d_Law_1321 : decode Y_Law.2.1 1321 = .ok (.iaload, 1) := by decide +kernel
theorem d_Law_1322 : decode Y_Law.2.1 1322 = .ok (.ifCond .eq 7, 3) := by decide +kernel
theorem d_Law_1325 : decode Y_Law.2.1 1325 = .ok (.iconst 1, 1) := by decide +kernel
theorem d_Law_1326 : decode Y_Law.2.1 1326 = .ok (.goto 4, 3) := by decide +kernel
theorem d_Law_1329 : decode Y_Law.2.1 1329 = .ok (.iconst 0, 1) := by decide +kernel
theorem d_Law_1330 : decode Y_Law.2.1 1330 = .ok (.invokevirtual 203, 3) := by decide +kernel
theorem d_Law_1333 : decode Y_Law.2.1 1333 = .ok (.if_icmp .eq 209, 3) := by decide +kernel
theorem d_Law_1336 : decode Y_Law.2.1 1336 = .ok (.iconst 0, 1) := by decide +kernel
theorem d_Law_1337 : decode Y_Law.2.1 1337 = .ok (.ireturn, 1) := by decide +kernel
theorem d_Law_1338 : decode Y_Law.2.1 1338 = .ok (.aload_n 1, 1) := by decide +kernel
theorem d_Law_1339 : decode Y_Law.2.1 1339 = .ok (.aload_n 0, 1) := by decide +kernel
theorem d_Law_1340 : decode Y_Law.2.1 1340 = .ok (.iload_n 3, 1) := by decide +kernel
theorem d_Law_1341 : decode Y_Law.2.1 1341 = .ok (.iconst 1, 1) := by decide +kernel
theorem d_Law_1342 : decode Y_Law.2.1 1342 = .ok (.iadd, 1) := by decide +kernel
theorem d_Law_1343 : decode Y_Law.2.1 1343 = .ok (.iaload, 1) := by decide +kernel
theorem d_Law_1344 : decode Y_Law.2.1 1344 = .ok (.invokevirtual 204, 3) := by decide +kernel
theorem d_Law_1347 : decode Y_Law.2.1 1347 = .ok (.aload_n 2, 1) := by decide +kernel
theorem d_Law_1348 : decode Y_Law.2.1 1348 = .ok (.aload_n 0, 1) := by decide +kernel
theorem d_Law_1349 : decode Y_Law.2.1 1349 = .ok (.iload_n 3, 1) := by decide +kernel
theorem d_Law_1350 : decode Y_Law.2.1 1350 = .ok (.iconst 1, 1) := by decide +kernel
theorem d_Law_1351 : decode Y_Law.2.1 1351 = .ok (.iadd, 1) := by decide +kernel
theorem d_Law_1352 : decode Y_Law.2.1 1352 = .ok (.iaload, 1) := by decide +kernel
theorem d_Law_1353 : decode Y_Law.2.1 1353 = .ok (.invokevirtual 208, 3) := by decide +kernel
theorem d_Law_1356 : decode Y_Law.2.1 1356 = .ok (.if_icmp .eq 186, 3) := by decide +kernel
theorem d_Law_1359 : decode Y_Law.2.1 1359 = .ok (.iconst 0, 1) := by decide +kernel
theorem d_Law_1360 : decode Y_Law.2.1 1360 = .ok (.ireturn, 1) := by decide +kernel
theorem d_Law_1361 : decode Y_Law.2.1 1361 = .ok (.aload_n 1, 1) := by decide +kernel
theorem d_Law_1362 : decode Y_Law.2.1 1362 = .ok (.aload_n 0, 1) := by decide +kernel
theorem d_Law_1363 : decode Y_Law.2.1 1363 = .ok (.iload_n 3, 1) := by decide +kernel
theorem d_Law_1364 : decode Y_Law.2.1 1364 = .ok (.iconst 1, 1) := by decide +kernel
theorem d_Law_1365 : decode Y_Law.2.1 1365 = .ok (.iadd, 1) := by decide +kernel
theorem d_Law_1366 : decode Y_Law.2.1 1366 = .ok (.iaload, 1) := by decide +kernel
theorem d_Law_1367 : decode Y_Law.2.1 1367 = .ok (.invokevirtual 209, 3) := by decide +kernel
theorem d_Law_1370 : decode Y_Law.2.1 1370 = .ok (.aload_n 2, 1) := by decide +kernel
theorem d_Law_1371 : decode Y_Law.2.1 1371 = .ok (.aload_n 0, 1) := by decide +kernel
theorem d_Law_1372 : decode Y_Law.2.1 1372 = .ok (.iload_n 3, 1) := by decide +kernel
theorem d_Law_1373 : decode Y_Law.2.1 1373 = .ok (.iconst 1, 1) := by decide +kernel
theorem d_Law_1374 : decode Y_Law.2.1 1374 = .ok (.iadd, 1) := by decide +kernel
theorem d_Law_1375 : decode Y_Law.2.1 1375 = .ok (.iaload, 1) := by decide +kernel
theorem d_Law_1376 : decode Y_Law.2.1 1376 = .ok (.invokevirtual 212, 3) := by decide +kernel
theorem d_Law_1379 : decode Y_Law.2.1 1379 = .ok (.if_icmp .eq 163, 3) := by decide +kernel
theorem d_Law_1382 : decode Y_Law.2.1 1382 = .ok (.iconst 0, 1) := by decide +kernel
theorem d_Law_1383 : decode Y_Law.2.1 1383 = .ok (.ireturn, 1) := by decide +kernel
theorem d_Law_1384 : decode Y_Law.2.1 1384 = .ok (.aload_n 1, 1) := by decide +kernel
theorem d_Law_1385 : decode Y_Law.2.1 1385 = .ok (.aload_n 0, 1) := by decide +kernel
theorem d_Law_1386 : decode Y_Law.2.1 1386 = .ok (.iload_n 3, 1) := by decide +kernel
theorem d_Law_1387 : decode Y_Law.2.1 1387 = .ok (.iconst 1, 1) := by decide +kernel
theorem d_Law_1388 : decode Y_Law.2.1 1388 = .ok (.iadd, 1) := by decide +kernel
theorem d_Law_1389 : decode Y_Law.2.1 1389 = .ok (.iaload, 1) := by decide +kernel
theorem d_Law_1390 : decode Y_Law.2.1 1390 = .ok (.invokevirtual 213, 3) := by decide +kernel
theorem d_Law_1393 : decode Y_Law.2.1 1393 = .ok (.aload_n 2, 1) := by decide +kernel
theorem d_Law_1394 : decode Y_Law.2.1 1394 = .ok (.aload_n 0, 1) := by decide +kernel
theorem d_Law_1395 : decode Y_Law.2.1 1395 = .ok (.iload_n 3, 1) := by decide +kernel
theorem d_Law_1396 : decode Y_Law.2.1 1396 = .ok (.iconst 1, 1) := by decide +kernel
theorem d_Law_1397 : decode Y_Law.2.1 1397 = .ok (.iadd, 1) := by decide +kernel
theorem d_Law_1398 : decode Y_Law.2.1 1398 = .ok (.iaload, 1) := by decide +kernel
theorem d_Law_1399 : decode Y_Law.2.1 1399 = .ok (.invokevirtual 216, 3) := by decide +kernel
theorem d_Law_1402 : decode Y_Law.2.1 1402 = .ok (.if_icmp .eq 140, 3) := by decide +kernel
theorem d_Law_1405 : decode Y_Law.2.1 1405 = .ok (.iconst 0, 1) := by decide +kernel
theorem d_Law_1406 : decode Y_Law.2.1 1406 = .ok (.ireturn, 1) := by decide +kernel
theorem d_Law_1407 : decode Y_Law.2.1 1407 = .ok (.aload_n 1, 1) := by decide +kernel
theorem d_Law_1408 : decode Y_Law.2.1 1408 = .ok (.aload_n 0, 1) := by decide +kernel
theorem d_Law_1409 : decode Y_Law.2.1 1409 = .ok (.iload_n 3, 1) := by decide +kernel
theorem d_Law_1410 : decode Y_Law.2.1 1410 = .ok (.iconst 1, 1) := by decide +kernel
theorem d_Law_1411 : decode Y_Law.2.1 1411 = .ok (.iadd, 1) := by decide +kernel
theorem d_Law_1412 : decode Y_Law.2.1 1412 = .ok (.iaload, 1) := by decide +kernel
theorem d_Law_1413 : decode Y_Law.2.1 1413 = .ok (.aload_n 0, 1) := by decide +kernel
theorem d_Law_1414 : decode Y_Law.2.1 1414 = .ok (.iload_n 3, 1) := by decide +kernel
theorem d_Law_1415 : decode Y_Law.2.1 1415 = .ok (.iconst 2, 1) := by decide +kernel
theorem d_Law_1416 : decode Y_Law.2.1 1416 = .ok (.iadd, 1) := by decide +kernel
theorem d_Law_1417 : decode Y_Law.2.1 1417 = .ok (.iaload, 1) := by decide +kernel
theorem d_Law_1418 : decode Y_Law.2.1 1418 = .ok (.invokevirtual 217, 3) := by decide +kernel
theorem d_Law_1421 : decode Y_Law.2.1 1421 = .ok (.aload_n 2, 1) := by decide +kernel
theorem d_Law_1422 : decode Y_Law.2.1 1422 = .ok (.aload_n 0, 1) := by decide +kernel
theorem d_Law_1423 : decode Y_Law.2.1 1423 = .ok (.iload_n 3, 1) := by decide +kernel
theorem d_Law_1424 : decode Y_Law.2.1 1424 = .ok (.iconst 1, 1) := by decide +kernel
theorem d_Law_1425 : decode Y_Law.2.1 1425 = .ok (.iadd, 1) := by decide +kernel
theorem d_Law_1426 : decode Y_Law.2.1 1426 = .ok (.iaload, 1) := by decide +kernel
theorem d_Law_1427 : decode Y_Law.2.1 1427 = .ok (.aload_n 0, 1) := by decide +kernel
theorem d_Law_1428 : decode Y_Law.2.1 1428 = .ok (.iload_n 3, 1) := by decide +kernel
theorem d_Law_1429 : decode Y_Law.2.1 1429 = .ok (.iconst 2, 1) := by decide +kernel
theorem d_Law_1430 : decode Y_Law.2.1 1430 = .ok (.iadd, 1) := by decide +kernel
theorem d_Law_1431 : decode Y_Law.2.1 1431 = .ok (.iaload, 1) := by decide +kernel
theorem d_Law_1432 : decode Y_Law.2.1 1432 = .ok (.invokevirtual 220, 3) := by decide +kernel
theorem d_Law_1435 : decode Y_Law.2.1 1435 = .ok (.if_icmp .eq 107, 3) := by decide +kernel
theorem d_Law_1438 : decode Y_Law.2.1 1438 = .ok (.iconst 0, 1) := by decide +kernel
theorem d_Law_1439 : decode Y_Law.2.1 1439 = .ok (.ireturn, 1) := by decide +kernel
theorem d_Law_1440 : decode Y_Law.2.1 1440 = .ok (.aload_n 1, 1) := by decide +kernel
theorem d_Law_1441 : decode Y_Law.2.1 1441 = .ok (.aload_n 0, 1) := by decide +kernel
theorem d_Law_1442 : decode Y_Law.2.1 1442 = .ok (.iload_n 3, 1) := by decide +kernel
theorem d_Law_1443 : decode Y_Law.2.1 1443 = .ok (.iconst 1, 1) := by decide +kernel
theorem d_Law_1444 : decode Y_Law.2.1 1444 = .ok (.iadd, 1) := by decide +kernel
theorem d_Law_1445 : decode Y_Law.2.1 1445 = .ok (.iaload, 1) := by decide +kernel
theorem d_Law_1446 : decode Y_Law.2.1 1446 = .ok (.aload_n 0, 1) := by decide +kernel
theorem d_Law_1447 : decode Y_Law.2.1 1447 = .ok (.iload_n 3, 1) := by decide +kernel
theorem d_Law_1448 : decode Y_Law.2.1 1448 = .ok (.iconst 2, 1) := by decide +kernel
theorem d_Law_1449 : decode Y_Law.2.1 1449 = .ok (.iadd, 1) := by decide +kernel
theorem d_Law_1450 : decode Y_Law.2.1 1450 = .ok (.iaload, 1) := by decide +kernel
theorem d_Law_1451 : decode Y_Law.2.1 1451 = .ok (.invokevirtual 221, 3) := by decide +kernel
theorem d_Law_1454 : decode Y_Law.2.1 1454 = .ok (.aload_n 2, 1) := by decide +kernel
theorem d_Law_1455 : decode Y_Law.2.1 1455 = .ok (.aload_n 0, 1) := by decide +kernel
theorem d_Law_1456 : decode Y_Law.2.1 1456 = .ok (.iload_n 3, 1) := by decide +kernel
theorem d_Law_1457 : decode Y_Law.2.1 1457 = .ok (.iconst 1, 1) := by decide +kernel
theorem d_Law_1458 : decode Y_Law.2.1 1458 = .ok (.iadd, 1) := by decide +kernel
theorem d_Law_1459 : decode Y_Law.2.1 1459 = .ok (.iaload, 1) := by decide +kernel
theorem d_Law_1460 : decode Y_Law.2.1 1460 = .ok (.aload_n 0, 1) := by decide +kernel
theorem d_Law_1461 : decode Y_Law.2.1 1461 = .ok (.iload_n 3, 1) := by decide +kernel
theorem d_Law_1462 : decode Y_Law.2.1 1462 = .ok (.iconst 2, 1) := by decide +kernel
theorem d_Law_1463 : decode Y_Law.2.1 1463 = .ok (.iadd, 1) := by decide +kernel
theorem d_Law_1464 : decode Y_Law.2.1 1464 = .ok (.iaload, 1) := by decide +kernel
theorem d_Law_1465 : decode Y_Law.2.1 1465 = .ok (.invokevirtual 224, 3) := by decide +kernel
theorem d_Law_1468 : decode Y_Law.2.1 1468 = .ok (.if_icmp .eq 74, 3) := by decide +kernel
theorem d_Law_1471 : decode Y_Law.2.1 1471 = .ok (.iconst 0, 1) := by decide +kernel
theorem d_Law_1472 : decode Y_Law.2.1 1472 = .ok (.ireturn, 1) := by decide +kernel
theorem d_Law_1473 : decode Y_Law.2.1 1473 = .ok (.aload_n 1, 1) := by decide +kernel
theorem d_Law_1474 : decode Y_Law.2.1 1474 = .ok (.aload_n 0, 1) := by decide +kernel
theorem d_Law_1475 : decode Y_Law.2.1 1475 = .ok (.iload_n 3, 1) := by decide +kernel
theorem d_Law_1476 : decode Y_Law.2.1 1476 = .ok (.iconst 1, 1) := by decide +kernel
theorem d_Law_1477 : decode Y_Law.2.1 1477 = .ok (.iadd, 1) := by decide +kernel
theorem d_Law_1478 : decode Y_Law.2.1 1478 = .ok (.iaload, 1) := by decide +kernel
theorem d_Law_1479 : decode Y_Law.2.1 1479 = .ok (.invokevirtual 225, 3) := by decide +kernel
theorem d_Law_1482 : decode Y_Law.2.1 1482 = .ok (.aload_n 2, 1) := by decide +kernel
theorem d_Law_1483 : decode Y_Law.2.1 1483 = .ok (.aload_n 0, 1) := by decide +kernel
theorem d_Law_1484 : decode Y_Law.2.1 1484 = .ok (.iload_n 3, 1) := by decide +kernel
theorem d_Law_1485 : decode Y_Law.2.1 1485 = .ok (.iconst 1, 1) := by decide +kernel
theorem d_Law_1486 : decode Y_Law.2.1 1486 = .ok (.iadd, 1) := by decide +kernel
theorem d_Law_1487 : decode Y_Law.2.1 1487 = .ok (.iaload, 1) := by decide +kernel
theorem d_Law_1488 : decode Y_Law.2.1 1488 = .ok (.invokevirtual 228, 3) := by decide +kernel
theorem d_Law_1491 : decode Y_Law.2.1 1491 = .ok (.if_icmp .eq 51, 3) := by decide +kernel
theorem d_Law_1494 : decode Y_Law.2.1 1494 = .ok (.iconst 0, 1) := by decide +kernel
theorem d_Law_1495 : decode Y_Law.2.1 1495 = .ok (.ireturn, 1) := by decide +kernel
theorem d_Law_1496 : decode Y_Law.2.1 1496 = .ok (.aload_n 1, 1) := by decide +kernel
theorem d_Law_1497 : decode Y_Law.2.1 1497 = .ok (.aload_n 0, 1) := by decide +kernel
theorem d_Law_1498 : decode Y_Law.2.1 1498 = .ok (.iload_n 3, 1) := by decide +kernel
theorem d_Law_1499 : decode Y_Law.2.1 1499 = .ok (.iconst 1, 1) := by decide +kernel
theorem d_Law_1500 : decode Y_Law.2.1 1500 = .ok (.iadd, 1) := by decide +kernel
theorem d_Law_1501 : decode Y_Law.2.1 1501 = .ok (.iaload, 1) := by decide +kernel
theorem d_Law_1502 : decode Y_Law.2.1 1502 = .ok (.invokevirtual 229, 3) := by decide +kernel
theorem d_Law_1505 : decode Y_Law.2.1 1505 = .ok (.aload_n 2, 1) := by decide +kernel
theorem d_Law_1506 : decode Y_Law.2.1 1506 = .ok (.aload_n 0, 1) := by decide +kernel
theorem d_Law_1507 : decode Y_Law.2.1 1507 = .ok (.iload_n 3, 1) := by decide +kernel
theorem d_Law_1508 : decode Y_Law.2.1 1508 = .ok (.iconst 1, 1) := by decide +kernel
theorem d_Law_1509 : decode Y_Law.2.1 1509 = .ok (.iadd, 1) := by decide +kernel
theorem d_Law_1510 : decode Y_Law.2.1 1510 = .ok (.iaload, 1) := by decide +kernel
theorem d_Law_1511 : decode Y_Law.2.1 1511 = .ok (.invokevirtual 232, 3) := by decide +kernel
theorem d_Law_1514 : decode Y_Law.2.1 1514 = .ok (.if_icmp .eq 28, 3) := by decide +kernel
theorem d_Law_1517 : decode Y_Law.2.1 1517 = .ok (.iconst 0, 1) := by decide +kernel
theorem d_Law_1518 : decode Y_Law.2.1 1518 = .ok (.ireturn, 1) := by decide +kernel
theorem d_Law_1519 : decode Y_Law.2.1 1519 = .ok (.aload_n 1, 1) := by decide +kernel
theorem d_Law_1520 : decode Y_Law.2.1 1520 = .ok (.aload_n 0, 1) := by decide +kernel
theorem d_Law_1521 : decode Y_Law.2.1 1521 = .ok (.iload_n 3, 1) := by decide +kernel
theorem d_Law_1522 : decode Y_Law.2.1 1522 = .ok (.iconst 1, 1) := by decide +kernel
theorem d_Law_1523 : decode Y_Law.2.1 1523 = .ok (.iadd, 1) := by decide +kernel
theorem d_Law_1524 : decode Y_Law.2.1 1524 = .ok (.iaload, 1) := by decide +kernel
theorem d_Law_1525 : decode Y_Law.2.1 1525 = .ok (.invokevirtual 233, 3) := by decide +kernel
theorem d_Law_1528 : decode Y_Law.2.1 1528 = .ok (.aload_n 2, 1) := by decide +kernel
theorem d_Law_1529 : decode Y_Law.2.1 1529 = .ok (.aload_n 0, 1) := by decide +kernel
theorem d_Law_1530 : decode Y_Law.2.1 1530 = .ok (.iload_n 3, 1) := by decide +kernel
theorem d_Law_1531 : decode Y_Law.2.1 1531 = .ok (.iconst 1, 1) := by decide +kernel
theorem d_Law_1532 : decode Y_Law.2.1 1532 = .ok (.iadd, 1) := by decide +kernel
theorem d_Law_1533 : decode Y_Law.2.1 1533 = .ok (.iaload, 1) := by decide +kernel
theorem d_Law_1534 : decode Y_Law.2.1 1534 = .ok (.invokevirtual 236, 3) := by decide +kernel
theorem d_Law_1537 : decode Y_Law.2.1 1537 = .ok (.if_icmp .eq 5, 3) := by decide +kernel
theorem d_Law_1540 : decode Y_Law.2.1 1540 = .ok (.iconst 0, 1) := by decide +kernel
theorem d_Law_1541 : decode Y_Law.2.1 1541 = .ok (.ireturn, 1) := by decide +kernel
theorem d_Law_1542 : decode Y_Law.2.1 1542 = .ok (.iinc 3 6, 3) := by decide +kernel
theorem d_Law_1545 : decode Y_Law.2.1 1545 = .ok (.goto (-1527), 3) := by decide +kernel
theorem d_Law_1548 : decode Y_Law.2.1 1548 = .ok (.iconst 1, 1) := by decide +kernel
theorem d_Law_1549 : decode Y_Law.2.1 1549 = .ok (.ireturn, 1) := by decide +kernel
